/-! ===== weakest preconditions, printed by wip/whole/genwp.py ===== -/
section WP
variable {sc : Nat × (Nat → Int32)}
def w_251_L68 : Nat → Int32 → Int32 → Int64 → Int32 → ST → (Int64 → ST → Prop) → (Int64 → ST → Prop) → (Int32 → ST → Prop) → Prop
  | 0, _, _, _, _, _, _, _, _ => False
  | n + 1, x1, x2, x7, x9, s, X87, X83, K => ((x1 ≤ x9 → X87 x7 s) ∧ (¬ (x1 ≤ x9) → (pin x9 6 = true ∧ (pin ((s.2.1 103) (x9).toNatClampNeg) 150 = true ∧ (pin x2 150 = true ∧ ((¬ ((s.2.1 59) (((s.2.1 103) (x9).toNatClampNeg)).toNatClampNeg) = ((s.2.1 59) (x2).toNatClampNeg) → w_251_L68 n x1 x2 x7 (x9 + (1 : Int32)) s X87 X83 K) ∧ (¬ (¬ ((s.2.1 59) (((s.2.1 103) (x9).toNatClampNeg)).toNatClampNeg) = ((s.2.1 59) (x2).toNatClampNeg)) → X83 x7 s)))))))
theorem q_251_L68 {d : Nat} {X87 : Int64 → ST → Prop} {X83 : Int64 → ST → Prop} {K : Int32 → ST → Prop} : ∀ (n : Nat) (x1 : Int32) (x2 : Int32) (x7 : Int64) (x9 : Int32) (s : ST), w_251_L68 n x1 x2 x7 x9 s X87 X83 K → (∀ (y7 : Int64) (s : ST), X87 y7 s → Ex sc (d + 0) 251 87 [pu, pu, pu, pu, pu, pu, pu, .long y7, pu, pu] [] (hpS s) (kZ K)) → (∀ (y7 : Int64) (s : ST), X83 y7 s → Ex sc (d + 0) 251 83 [pu, pu, pu, pu, pu, pu, pu, .long y7, pu, pu] [] (hpS s) (kZ K)) → Ex sc (d + 0) 251 68 [.ref 55, .int x1, .int x2, pu, pu, pu, pu, .long x7, pu, .int x9] [] (hpS s) (kZ K) := by
  have hq : prog[251]? = some pm251 := rfl
  intro n
  induction n with
  | zero =>
    intro x1 x2 x7 x9 s k
    exact k.elim
  | succ n ih =>
    intro x1 x2 x7 x9 s k hX87 hX83
    rw [w_251_L68] at k
    refine Ex.seg hq 2 (j := 70) (L' := [.ref 55, .int x1, .int x2, pu, pu, pu, pu, .long x7, pu, .int x9]) (S' := [.int x1, .int x9]) (h' := hpS s) rfl ?_
    refine Ex.i2 hq rfl (fun c => ?_) (fun c => ?_)
    · have k := k.1 c
      refine Ex.fg (L := [pu, pu, pu, pu, pu, pu, pu, .long x7, pu, pu]) ⟨Or.inr ⟨rfl, rfl⟩, ⟨Or.inr ⟨rfl, rfl⟩, ⟨Or.inr ⟨rfl, rfl⟩, ⟨Or.inl rfl, ⟨Or.inl rfl, ⟨Or.inl rfl, ⟨Or.inl rfl, ⟨Or.inl rfl, ⟨Or.inl rfl, ⟨Or.inr ⟨rfl, rfl⟩, trivial⟩⟩⟩⟩⟩⟩⟩⟩⟩⟩ ?_
      exact hX87 x7 s k
    · have k := k.2 c
      refine Ex.seg hq 5 (j := 76) (L' := [.ref 55, .int x1, .int x2, pu, pu, pu, pu, .long x7, pu, .int x9]) (S' := [.int x9, .ref 103, .ref 59]) (h' := hpS s) rfl ?_
      obtain ⟨hin, k⟩ := k
      refine Ex.ial hq rfl rfl hin ?_
      obtain ⟨hin, k⟩ := k
      refine Ex.ial hq rfl rfl hin ?_
      refine Ex.seg hq 3 (j := 81) (L' := [.ref 55, .int x1, .int x2, pu, pu, pu, pu, .long x7, pu, .int x9]) (S' := [.int x2, .ref 59, .int ((s.2.1 59) (((s.2.1 103) (x9).toNatClampNeg)).toNatClampNeg)]) (h' := hpS s) rfl ?_
      obtain ⟨hin, k⟩ := k
      refine Ex.ial hq rfl rfl hin ?_
      refine Ex.i2 hq rfl (fun c => ?_) (fun c => ?_)
      · have k := k.1 c
        refine Ex.seg hq 2 (j := 68) (L' := [.ref 55, .int x1, .int x2, pu, pu, pu, pu, .long x7, pu, .int (x9 + (1 : Int32))]) (S' := []) (h' := hpS s) rfl ?_
        exact ih x1 x2 x7 (x9 + (1 : Int32)) s k hX87 hX83
      · have k := k.2 c
        refine Ex.fg (L := [pu, pu, pu, pu, pu, pu, pu, .long x7, pu, pu]) ⟨Or.inr ⟨rfl, rfl⟩, ⟨Or.inr ⟨rfl, rfl⟩, ⟨Or.inr ⟨rfl, rfl⟩, ⟨Or.inl rfl, ⟨Or.inl rfl, ⟨Or.inl rfl, ⟨Or.inl rfl, ⟨Or.inl rfl, ⟨Or.inl rfl, ⟨Or.inr ⟨rfl, rfl⟩, trivial⟩⟩⟩⟩⟩⟩⟩⟩⟩⟩ ?_
        exact hX83 x7 s k
/-- RowAuditorModel.fitsRound(IIII)Z -/
def w_251 (p1 : Int32) (p2 : Int32) (p3 : Int32) (p4 : Int32) (s : ST) (K : Int32 → ST → Prop) : Prop := (pin (0 : Int32) 6 = true ∧ (pin p2 150 = true ∧ (pin ((s.2.1 103) ((0 : Int32)).toNatClampNeg) 150 = true ∧ ((p3 < (((s.2.1 60) (p2).toNatClampNeg) - ((s.2.1 60) (((s.2.1 103) ((0 : Int32)).toNatClampNeg)).toNatClampNeg)) → K (0 : Int32) s) ∧ (¬ (p3 < (((s.2.1 60) (p2).toNatClampNeg) - ((s.2.1 60) (((s.2.1 103) ((0 : Int32)).toNatClampNeg)).toNatClampNeg))) → (pin p2 150 = true ∧ (pin (p1 - (1 : Int32)) 6 = true ∧ (pin ((s.2.1 103) ((p1 - (1 : Int32))).toNatClampNeg) 150 = true ∧ ((((s.2.1 58) (p2).toNatClampNeg) = ((s.2.1 59) (((s.2.1 103) ((p1 - (1 : Int32))).toNatClampNeg)).toNatClampNeg) → (pin p2 150 = true ∧ (pin ((s.2.1 103) ((0 : Int32)).toNatClampNeg) 150 = true ∧ (pin ((s.2.1 103) ((0 : Int32)).toNatClampNeg) 150 = true ∧ (¬ (100 : Int64) = 0 ∧ ((0 < (lg_cmp (((((s.2.1 73) (p2).toNatClampNeg) - ((s.2.1 73) (((s.2.1 103) ((0 : Int32)).toNatClampNeg)).toNatClampNeg))).toInt64) ((((((s.2.1 73) (((s.2.1 103) ((0 : Int32)).toNatClampNeg)).toNatClampNeg)).toInt64) * ((p4).toInt64)) / (100 : Int64))) → K (0 : Int32) s) ∧ (¬ (0 < (lg_cmp (((((s.2.1 73) (p2).toNatClampNeg) - ((s.2.1 73) (((s.2.1 103) ((0 : Int32)).toNatClampNeg)).toNatClampNeg))).toInt64) ((((((s.2.1 73) (((s.2.1 103) ((0 : Int32)).toNatClampNeg)).toNatClampNeg)).toInt64) * ((p4).toInt64)) / (100 : Int64)))) → (((lg_cmp (((-(((s.2.1 73) (p2).toNatClampNeg) - ((s.2.1 73) (((s.2.1 103) ((0 : Int32)).toNatClampNeg)).toNatClampNeg)))).toInt64) ((((((s.2.1 73) (((s.2.1 103) ((0 : Int32)).toNatClampNeg)).toNatClampNeg)).toInt64) * ((p4).toInt64)) / (100 : Int64))) ≤ 0 → (∃ m, w_251_L68 m p1 p2 ((((((s.2.1 73) (((s.2.1 103) ((0 : Int32)).toNatClampNeg)).toNatClampNeg)).toInt64) * ((p4).toInt64)) / (100 : Int64)) (0 : Int32) s (fun y7 s1 => K (1 : Int32) s1) (fun y7 s2 => K (0 : Int32) s2) K)) ∧ (¬ ((lg_cmp (((-(((s.2.1 73) (p2).toNatClampNeg) - ((s.2.1 73) (((s.2.1 103) ((0 : Int32)).toNatClampNeg)).toNatClampNeg)))).toInt64) ((((((s.2.1 73) (((s.2.1 103) ((0 : Int32)).toNatClampNeg)).toNatClampNeg)).toInt64) * ((p4).toInt64)) / (100 : Int64))) ≤ 0) → K (0 : Int32) s))))))))) ∧ (¬ (((s.2.1 58) (p2).toNatClampNeg) = ((s.2.1 59) (((s.2.1 103) ((p1 - (1 : Int32))).toNatClampNeg)).toNatClampNeg)) → K (0 : Int32) s))))))))))
theorem q_251 {d : Nat} {K : Int32 → ST → Prop} (p1 : Int32) (p2 : Int32) (p3 : Int32) (p4 : Int32) (s : ST) (k : w_251 p1 p2 p3 p4 s K) : Rn sc (d + 0) 251 [.ref 55, .int p1, .int p2, .int p3, .int p4] (hpS s) (kZ K) := by
  have hq : prog[251]? = some pm251 := rfl
  refine Rn.of (L := [.ref 55, .int p1, .int p2, .int p3, .int p4, pu, pu, pu, pu, pu]) hq rfl rfl ?_
  unfold w_251 at k
  refine Ex.seg hq 3 (j := 3) (L' := [.ref 55, .int p1, .int p2, .int p3, .int p4, pu, pu, pu, pu, pu]) (S' := [.int (0 : Int32), .ref 103]) (h' := hpS s) rfl ?_
  obtain ⟨hin, k⟩ := k
  refine Ex.ial hq rfl rfl hin ?_
  refine Ex.seg hq 4 (j := 8) (L' := [.ref 55, .int p1, .int p2, .int p3, .int p4, .int ((s.2.1 103) ((0 : Int32)).toNatClampNeg), pu, pu, pu, pu]) (S' := [.int p2, .ref 60]) (h' := hpS s) rfl ?_
  obtain ⟨hin, k⟩ := k
  refine Ex.ial hq rfl rfl hin ?_
  refine Ex.seg hq 3 (j := 12) (L' := [.ref 55, .int p1, .int p2, .int p3, .int p4, .int ((s.2.1 103) ((0 : Int32)).toNatClampNeg), pu, pu, pu, pu]) (S' := [.int ((s.2.1 103) ((0 : Int32)).toNatClampNeg), .ref 60, .int ((s.2.1 60) (p2).toNatClampNeg)]) (h' := hpS s) rfl ?_
  obtain ⟨hin, k⟩ := k
  refine Ex.ial hq rfl rfl hin ?_
  refine Ex.seg hq 2 (j := 15) (L' := [.ref 55, .int p1, .int p2, .int p3, .int p4, .int ((s.2.1 103) ((0 : Int32)).toNatClampNeg), pu, pu, pu, pu]) (S' := [.int p3, .int (((s.2.1 60) (p2).toNatClampNeg) - ((s.2.1 60) (((s.2.1 103) ((0 : Int32)).toNatClampNeg)).toNatClampNeg))]) (h' := hpS s) rfl ?_
  refine Ex.i2 hq rfl (fun c => ?_) (fun c => ?_)
  · have k := k.1 c
    refine Ex.seg hq 1 (j := 31) (L' := [.ref 55, .int p1, .int p2, .int p3, .int p4, .int ((s.2.1 103) ((0 : Int32)).toNatClampNeg), pu, pu, pu, pu]) (S' := [.int (0 : Int32)]) (h' := hpS s) rfl ?_
    exact Ex.zr hq rfl rfl (Or.inl rfl) ⟨(0 : Int32), s, rfl, (Or.inl rfl), rfl, k⟩
  · have k := k.2 c
    refine Ex.seg hq 3 (j := 19) (L' := [.ref 55, .int p1, .int p2, .int p3, .int p4, .int ((s.2.1 103) ((0 : Int32)).toNatClampNeg), pu, pu, pu, pu]) (S' := [.int p2, .ref 58]) (h' := hpS s) rfl ?_
    obtain ⟨hin, k⟩ := k
    refine Ex.ial hq rfl rfl hin ?_
    refine Ex.seg hq 7 (j := 27) (L' := [.ref 55, .int p1, .int p2, .int p3, .int p4, .int ((s.2.1 103) ((0 : Int32)).toNatClampNeg), pu, pu, pu, pu]) (S' := [.int (p1 - (1 : Int32)), .ref 103, .ref 59, .int ((s.2.1 58) (p2).toNatClampNeg)]) (h' := hpS s) rfl ?_
    obtain ⟨hin, k⟩ := k
    refine Ex.ial hq rfl rfl hin ?_
    obtain ⟨hin, k⟩ := k
    refine Ex.ial hq rfl rfl hin ?_
    refine Ex.i2 hq rfl (fun c => ?_) (fun c => ?_)
    · have k := k.1 c
      refine Ex.seg hq 3 (j := 35) (L' := [.ref 55, .int p1, .int p2, .int p3, .int p4, .int ((s.2.1 103) ((0 : Int32)).toNatClampNeg), pu, pu, pu, pu]) (S' := [.int p2, .ref 73]) (h' := hpS s) rfl ?_
      obtain ⟨hin, k⟩ := k
      refine Ex.ial hq rfl rfl hin ?_
      refine Ex.seg hq 3 (j := 39) (L' := [.ref 55, .int p1, .int p2, .int p3, .int p4, .int ((s.2.1 103) ((0 : Int32)).toNatClampNeg), pu, pu, pu, pu]) (S' := [.int ((s.2.1 103) ((0 : Int32)).toNatClampNeg), .ref 73, .int ((s.2.1 73) (p2).toNatClampNeg)]) (h' := hpS s) rfl ?_
      obtain ⟨hin, k⟩ := k
      refine Ex.ial hq rfl rfl hin ?_
      refine Ex.seg hq 5 (j := 45) (L' := [.ref 55, .int p1, .int p2, .int p3, .int p4, .int ((s.2.1 103) ((0 : Int32)).toNatClampNeg), .int (((s.2.1 73) (p2).toNatClampNeg) - ((s.2.1 73) (((s.2.1 103) ((0 : Int32)).toNatClampNeg)).toNatClampNeg)), pu, pu, pu]) (S' := [.int ((s.2.1 103) ((0 : Int32)).toNatClampNeg), .ref 73]) (h' := hpS s) rfl ?_
      obtain ⟨hin, k⟩ := k
      refine Ex.ial hq rfl rfl hin ?_
      refine Ex.seg hq 5 (j := 51) (L' := [.ref 55, .int p1, .int p2, .int p3, .int p4, .int ((s.2.1 103) ((0 : Int32)).toNatClampNeg), .int (((s.2.1 73) (p2).toNatClampNeg) - ((s.2.1 73) (((s.2.1 103) ((0 : Int32)).toNatClampNeg)).toNatClampNeg)), pu, pu, pu]) (S' := [.long (100 : Int64), .long (((((s.2.1 73) (((s.2.1 103) ((0 : Int32)).toNatClampNeg)).toNatClampNeg)).toInt64) * ((p4).toInt64))]) (h' := hpS s) rfl ?_
      obtain ⟨hz, k⟩ := k
      refine Ex.ldv hq rfl hz ?_
      refine Ex.seg hq 5 (j := 57) (L' := [.ref 55, .int p1, .int p2, .int p3, .int p4, .int ((s.2.1 103) ((0 : Int32)).toNatClampNeg), .int (((s.2.1 73) (p2).toNatClampNeg) - ((s.2.1 73) (((s.2.1 103) ((0 : Int32)).toNatClampNeg)).toNatClampNeg)), .long ((((((s.2.1 73) (((s.2.1 103) ((0 : Int32)).toNatClampNeg)).toNatClampNeg)).toInt64) * ((p4).toInt64)) / (100 : Int64)), pu, pu]) (S' := [.int (lg_cmp (((((s.2.1 73) (p2).toNatClampNeg) - ((s.2.1 73) (((s.2.1 103) ((0 : Int32)).toNatClampNeg)).toNatClampNeg))).toInt64) ((((((s.2.1 73) (((s.2.1 103) ((0 : Int32)).toNatClampNeg)).toNatClampNeg)).toInt64) * ((p4).toInt64)) / (100 : Int64)))]) (h' := hpS s) rfl ?_
      refine Ex.i1 hq rfl (fun c => ?_) (fun c => ?_)
      · have k := k.1 c
        refine Ex.seg hq 1 (j := 65) (L' := [.ref 55, .int p1, .int p2, .int p3, .int p4, .int ((s.2.1 103) ((0 : Int32)).toNatClampNeg), .int (((s.2.1 73) (p2).toNatClampNeg) - ((s.2.1 73) (((s.2.1 103) ((0 : Int32)).toNatClampNeg)).toNatClampNeg)), .long ((((((s.2.1 73) (((s.2.1 103) ((0 : Int32)).toNatClampNeg)).toNatClampNeg)).toInt64) * ((p4).toInt64)) / (100 : Int64)), pu, pu]) (S' := [.int (0 : Int32)]) (h' := hpS s) rfl ?_
        exact Ex.zr hq rfl rfl (Or.inl rfl) ⟨(0 : Int32), s, rfl, (Or.inl rfl), rfl, k⟩
      · have k := k.2 c
        refine Ex.seg hq 5 (j := 63) (L' := [.ref 55, .int p1, .int p2, .int p3, .int p4, .int ((s.2.1 103) ((0 : Int32)).toNatClampNeg), .int (((s.2.1 73) (p2).toNatClampNeg) - ((s.2.1 73) (((s.2.1 103) ((0 : Int32)).toNatClampNeg)).toNatClampNeg)), .long ((((((s.2.1 73) (((s.2.1 103) ((0 : Int32)).toNatClampNeg)).toNatClampNeg)).toInt64) * ((p4).toInt64)) / (100 : Int64)), pu, pu]) (S' := [.int (lg_cmp (((-(((s.2.1 73) (p2).toNatClampNeg) - ((s.2.1 73) (((s.2.1 103) ((0 : Int32)).toNatClampNeg)).toNatClampNeg)))).toInt64) ((((((s.2.1 73) (((s.2.1 103) ((0 : Int32)).toNatClampNeg)).toNatClampNeg)).toInt64) * ((p4).toInt64)) / (100 : Int64)))]) (h' := hpS s) rfl ?_
        refine Ex.i1 hq rfl (fun c => ?_) (fun c => ?_)
        · have k := k.1 c
          refine Ex.seg hq 2 (j := 68) (L' := [.ref 55, .int p1, .int p2, .int p3, .int p4, .int ((s.2.1 103) ((0 : Int32)).toNatClampNeg), .int (((s.2.1 73) (p2).toNatClampNeg) - ((s.2.1 73) (((s.2.1 103) ((0 : Int32)).toNatClampNeg)).toNatClampNeg)), .long ((((((s.2.1 73) (((s.2.1 103) ((0 : Int32)).toNatClampNeg)).toNatClampNeg)).toInt64) * ((p4).toInt64)) / (100 : Int64)), pu, .int (0 : Int32)]) (S' := []) (h' := hpS s) rfl ?_
          obtain ⟨m, k⟩ := k
          refine Ex.fg (L := [.ref 55, .int p1, .int p2, pu, pu, pu, pu, .long ((((((s.2.1 73) (((s.2.1 103) ((0 : Int32)).toNatClampNeg)).toNatClampNeg)).toInt64) * ((p4).toInt64)) / (100 : Int64)), pu, .int (0 : Int32)]) ⟨Or.inl rfl, ⟨Or.inl rfl, ⟨Or.inl rfl, ⟨Or.inr ⟨rfl, rfl⟩, ⟨Or.inr ⟨rfl, rfl⟩, ⟨Or.inr ⟨rfl, rfl⟩, ⟨Or.inr ⟨rfl, rfl⟩, ⟨Or.inl rfl, ⟨Or.inl rfl, ⟨Or.inl rfl, trivial⟩⟩⟩⟩⟩⟩⟩⟩⟩⟩ ?_
          refine q_251_L68 (d := d) m p1 p2 ((((((s.2.1 73) (((s.2.1 103) ((0 : Int32)).toNatClampNeg)).toNatClampNeg)).toInt64) * ((p4).toInt64)) / (100 : Int64)) (0 : Int32) s k ?_ ?_
          · intro y7 s1 k
            refine Ex.seg hq 1 (j := 88) (L' := [pu, pu, pu, pu, pu, pu, pu, .long y7, pu, pu]) (S' := [.int (1 : Int32)]) (h' := hpS s1) rfl ?_
            exact Ex.zr hq rfl rfl (Or.inr rfl) ⟨(1 : Int32), s1, rfl, (Or.inr rfl), rfl, k⟩
          · intro y7 s2 k
            refine Ex.seg hq 1 (j := 84) (L' := [pu, pu, pu, pu, pu, pu, pu, .long y7, pu, pu]) (S' := [.int (0 : Int32)]) (h' := hpS s2) rfl ?_
            exact Ex.zr hq rfl rfl (Or.inl rfl) ⟨(0 : Int32), s2, rfl, (Or.inl rfl), rfl, k⟩
        · have k := k.2 c
          refine Ex.seg hq 1 (j := 65) (L' := [.ref 55, .int p1, .int p2, .int p3, .int p4, .int ((s.2.1 103) ((0 : Int32)).toNatClampNeg), .int (((s.2.1 73) (p2).toNatClampNeg) - ((s.2.1 73) (((s.2.1 103) ((0 : Int32)).toNatClampNeg)).toNatClampNeg)), .long ((((((s.2.1 73) (((s.2.1 103) ((0 : Int32)).toNatClampNeg)).toNatClampNeg)).toInt64) * ((p4).toInt64)) / (100 : Int64)), pu, pu]) (S' := [.int (0 : Int32)]) (h' := hpS s) rfl ?_
          exact Ex.zr hq rfl rfl (Or.inl rfl) ⟨(0 : Int32), s, rfl, (Or.inl rfl), rfl, k⟩
    · have k := k.2 c
      refine Ex.seg hq 1 (j := 31) (L' := [.ref 55, .int p1, .int p2, .int p3, .int p4, .int ((s.2.1 103) ((0 : Int32)).toNatClampNeg), pu, pu, pu, pu]) (S' := [.int (0 : Int32)]) (h' := hpS s) rfl ?_
      exact Ex.zr hq rfl rfl (Or.inl rfl) ⟨(0 : Int32), s, rfl, (Or.inl rfl), rfl, k⟩
def w_252_L25 : Nat → Int32 → Int32 → Int32 → Int32 → ST → (Int32 → ST → Prop) → (Int32 → ST → Prop) → Prop
  | 0, _, _, _, _, _, _, _ => False
  | n + 1, x1, x2, x3, x4, s, X121, K => ((x4 < 0 → X121 x3 s) ∧ (¬ (x4 < 0) → (((100000 : Int32) ≤ x3 → X121 x3 s) ∧ (¬ ((100000 : Int32) ≤ x3) → (pin x4 6 = true ∧ (pin x4 6 = true ∧ ((((s.2.1 104) (x4).toNatClampNeg) < (s.1 5520) → (pin ((s.2.1 104) (x4).toNatClampNeg) 150 = true ∧ (pin ((s.2.1 72) (((s.2.1 104) (x4).toNatClampNeg)).toNatClampNeg) 150 = true ∧ ((¬ ((s.2.1 57) (((s.2.1 72) (((s.2.1 104) (x4).toNatClampNeg)).toNatClampNeg)).toNatClampNeg) = (2 : Int32) → w_252_L25 n x1 x2 x3 x4 (sA s 104 (upd (s.2.1 104) (x4).toNatClampNeg (((s.2.1 104) (x4).toNatClampNeg) + (1 : Int32)))) X121 K) ∧ (¬ (¬ ((s.2.1 57) (((s.2.1 72) (((s.2.1 104) (x4).toNatClampNeg)).toNatClampNeg)).toNatClampNeg) = (2 : Int32)) → ((x4 ≤ 0 → (pin x4 6 = true ∧ ((x4 ≤ 0 → ((¬ x4 = (5 : Int32) → (pin (x4 + (1 : Int32)) 6 = true ∧ w_252_L25 n x1 x2 (x3 + (0 : Int32)) (x4 + (1 : Int32)) (sA (sA s 103 (upd (s.2.1 103) (x4).toNatClampNeg ((s.2.1 72) (((s.2.1 104) (x4).toNatClampNeg)).toNatClampNeg))) 104 (upd (upd (s.2.1 104) (x4).toNatClampNeg (((s.2.1 104) (x4).toNatClampNeg) + (1 : Int32))) ((x4 + (1 : Int32))).toNatClampNeg (((s.2.1 104) (x4).toNatClampNeg) + (1 : Int32)))) X121 K)) ∧ (¬ (¬ x4 = (5 : Int32)) → w_252_L25 n x1 x2 (x3 + (0 : Int32)) x4 (sA (sA s 104 (upd (s.2.1 104) (x4).toNatClampNeg (((s.2.1 104) (x4).toNatClampNeg) + (1 : Int32)))) 103 (upd (s.2.1 103) (x4).toNatClampNeg ((s.2.1 72) (((s.2.1 104) (x4).toNatClampNeg)).toNatClampNeg))) X121 K))) ∧ (¬ (x4 ≤ 0) → (pin ((s.2.1 72) (((s.2.1 104) (x4).toNatClampNeg)).toNatClampNeg) 150 = true ∧ (pin (0 : Int32) 6 = true ∧ (pin ((upd (s.2.1 103) (x4).toNatClampNeg ((s.2.1 72) (((s.2.1 104) (x4).toNatClampNeg)).toNatClampNeg)) ((0 : Int32)).toNatClampNeg) 150 = true ∧ ((¬ ((s.2.1 59) (((s.2.1 72) (((s.2.1 104) (x4).toNatClampNeg)).toNatClampNeg)).toNatClampNeg) = ((s.2.1 58) (((upd (s.2.1 103) (x4).toNatClampNeg ((s.2.1 72) (((s.2.1 104) (x4).toNatClampNeg)).toNatClampNeg)) ((0 : Int32)).toNatClampNeg)).toNatClampNeg) → ((¬ x4 = (5 : Int32) → (pin (x4 + (1 : Int32)) 6 = true ∧ w_252_L25 n x1 x2 (x3 + (0 : Int32)) (x4 + (1 : Int32)) (sA (sA s 103 (upd (s.2.1 103) (x4).toNatClampNeg ((s.2.1 72) (((s.2.1 104) (x4).toNatClampNeg)).toNatClampNeg))) 104 (upd (upd (s.2.1 104) (x4).toNatClampNeg (((s.2.1 104) (x4).toNatClampNeg) + (1 : Int32))) ((x4 + (1 : Int32))).toNatClampNeg (((s.2.1 104) (x4).toNatClampNeg) + (1 : Int32)))) X121 K)) ∧ (¬ (¬ x4 = (5 : Int32)) → w_252_L25 n x1 x2 (x3 + (0 : Int32)) x4 (sA (sA s 104 (upd (s.2.1 104) (x4).toNatClampNeg (((s.2.1 104) (x4).toNatClampNeg) + (1 : Int32)))) 103 (upd (s.2.1 103) (x4).toNatClampNeg ((s.2.1 72) (((s.2.1 104) (x4).toNatClampNeg)).toNatClampNeg))) X121 K))) ∧ (¬ (¬ ((s.2.1 59) (((s.2.1 72) (((s.2.1 104) (x4).toNatClampNeg)).toNatClampNeg)).toNatClampNeg) = ((s.2.1 58) (((upd (s.2.1 103) (x4).toNatClampNeg ((s.2.1 72) (((s.2.1 104) (x4).toNatClampNeg)).toNatClampNeg)) ((0 : Int32)).toNatClampNeg)).toNatClampNeg)) → w_252_L25 n x1 x2 (x3 + (1 : Int32)) x4 (sA (sA s 104 (upd (s.2.1 104) (x4).toNatClampNeg (((s.2.1 104) (x4).toNatClampNeg) + (1 : Int32)))) 103 (upd (s.2.1 103) (x4).toNatClampNeg ((s.2.1 72) (((s.2.1 104) (x4).toNatClampNeg)).toNatClampNeg))) X121 K))))))))) ∧ (¬ (x4 ≤ 0) → w_251 x4 ((s.2.1 72) (((s.2.1 104) (x4).toNatClampNeg)).toNatClampNeg) x1 x2 (sA s 104 (upd (s.2.1 104) (x4).toNatClampNeg (((s.2.1 104) (x4).toNatClampNeg) + (1 : Int32)))) (fun r8 s7 => ((¬ r8 = 0 → (pin x4 6 = true ∧ ((x4 ≤ 0 → ((¬ x4 = (5 : Int32) → (pin (x4 + (1 : Int32)) 6 = true ∧ w_252_L25 n x1 x2 (x3 + (0 : Int32)) (x4 + (1 : Int32)) (sA (sA s7 103 (upd (s7.2.1 103) (x4).toNatClampNeg ((s.2.1 72) (((s.2.1 104) (x4).toNatClampNeg)).toNatClampNeg))) 104 (upd (s7.2.1 104) ((x4 + (1 : Int32))).toNatClampNeg (((s.2.1 104) (x4).toNatClampNeg) + (1 : Int32)))) X121 K)) ∧ (¬ (¬ x4 = (5 : Int32)) → w_252_L25 n x1 x2 (x3 + (0 : Int32)) x4 (sA s7 103 (upd (s7.2.1 103) (x4).toNatClampNeg ((s.2.1 72) (((s.2.1 104) (x4).toNatClampNeg)).toNatClampNeg))) X121 K))) ∧ (¬ (x4 ≤ 0) → (pin ((s.2.1 72) (((s.2.1 104) (x4).toNatClampNeg)).toNatClampNeg) 150 = true ∧ (pin (0 : Int32) 6 = true ∧ (pin ((upd (s7.2.1 103) (x4).toNatClampNeg ((s.2.1 72) (((s.2.1 104) (x4).toNatClampNeg)).toNatClampNeg)) ((0 : Int32)).toNatClampNeg) 150 = true ∧ ((¬ ((s7.2.1 59) (((s.2.1 72) (((s.2.1 104) (x4).toNatClampNeg)).toNatClampNeg)).toNatClampNeg) = ((s7.2.1 58) (((upd (s7.2.1 103) (x4).toNatClampNeg ((s.2.1 72) (((s.2.1 104) (x4).toNatClampNeg)).toNatClampNeg)) ((0 : Int32)).toNatClampNeg)).toNatClampNeg) → ((¬ x4 = (5 : Int32) → (pin (x4 + (1 : Int32)) 6 = true ∧ w_252_L25 n x1 x2 (x3 + (0 : Int32)) (x4 + (1 : Int32)) (sA (sA s7 103 (upd (s7.2.1 103) (x4).toNatClampNeg ((s.2.1 72) (((s.2.1 104) (x4).toNatClampNeg)).toNatClampNeg))) 104 (upd (s7.2.1 104) ((x4 + (1 : Int32))).toNatClampNeg (((s.2.1 104) (x4).toNatClampNeg) + (1 : Int32)))) X121 K)) ∧ (¬ (¬ x4 = (5 : Int32)) → w_252_L25 n x1 x2 (x3 + (0 : Int32)) x4 (sA s7 103 (upd (s7.2.1 103) (x4).toNatClampNeg ((s.2.1 72) (((s.2.1 104) (x4).toNatClampNeg)).toNatClampNeg))) X121 K))) ∧ (¬ (¬ ((s7.2.1 59) (((s.2.1 72) (((s.2.1 104) (x4).toNatClampNeg)).toNatClampNeg)).toNatClampNeg) = ((s7.2.1 58) (((upd (s7.2.1 103) (x4).toNatClampNeg ((s.2.1 72) (((s.2.1 104) (x4).toNatClampNeg)).toNatClampNeg)) ((0 : Int32)).toNatClampNeg)).toNatClampNeg)) → w_252_L25 n x1 x2 (x3 + (1 : Int32)) x4 (sA s7 103 (upd (s7.2.1 103) (x4).toNatClampNeg ((s.2.1 72) (((s.2.1 104) (x4).toNatClampNeg)).toNatClampNeg))) X121 K))))))))) ∧ (¬ (¬ r8 = 0) → w_252_L25 n x1 x2 x3 x4 s7 X121 K)))))))))) ∧ (¬ (((s.2.1 104) (x4).toNatClampNeg) < (s.1 5520)) → w_252_L25 n x1 x2 x3 (x4 - (1 : Int32)) (sA s 104 (upd (s.2.1 104) (x4).toNatClampNeg (((s.2.1 104) (x4).toNatClampNeg) + (1 : Int32)))) X121 K))))))))
theorem q_252_L25 {d : Nat} {X121 : Int32 → ST → Prop} {K : Int32 → ST → Prop} : ∀ (n : Nat) (x1 : Int32) (x2 : Int32) (x3 : Int32) (x4 : Int32) (s : ST), w_252_L25 n x1 x2 x3 x4 s X121 K → (∀ (y3 : Int32) (s : ST), X121 y3 s → Ex sc (d + 2) 252 121 [pu, pu, pu, .int y3, pu, pu, pu, pu] [] (hpS s) (kI K)) → Ex sc (d + 2) 252 25 [.ref 55, .int x1, .int x2, .int x3, .int x4, pu, pu, pu] [] (hpS s) (kI K) := by
  have hq : prog[252]? = some pm252 := rfl
  intro n
  induction n with
  | zero =>
    intro x1 x2 x3 x4 s k
    exact k.elim
  | succ n ih =>
    intro x1 x2 x3 x4 s k hX121
    rw [w_252_L25] at k
    refine Ex.seg hq 1 (j := 26) (L' := [.ref 55, .int x1, .int x2, .int x3, .int x4, pu, pu, pu]) (S' := [.int x4]) (h' := hpS s) rfl ?_
    refine Ex.i1 hq rfl (fun c => ?_) (fun c => ?_)
    · have k := k.1 c
      refine Ex.fg (L := [pu, pu, pu, .int x3, pu, pu, pu, pu]) ⟨Or.inr ⟨rfl, rfl⟩, ⟨Or.inr ⟨rfl, rfl⟩, ⟨Or.inr ⟨rfl, rfl⟩, ⟨Or.inl rfl, ⟨Or.inr ⟨rfl, rfl⟩, ⟨Or.inl rfl, ⟨Or.inl rfl, ⟨Or.inl rfl, trivial⟩⟩⟩⟩⟩⟩⟩⟩ ?_
      exact hX121 x3 s k
    · have k := k.2 c
      refine Ex.seg hq 2 (j := 29) (L' := [.ref 55, .int x1, .int x2, .int x3, .int x4, pu, pu, pu]) (S' := [.int (100000 : Int32), .int x3]) (h' := hpS s) rfl ?_
      refine Ex.i2 hq rfl (fun c => ?_) (fun c => ?_)
      · have k := k.1 c
        refine Ex.fg (L := [pu, pu, pu, .int x3, pu, pu, pu, pu]) ⟨Or.inr ⟨rfl, rfl⟩, ⟨Or.inr ⟨rfl, rfl⟩, ⟨Or.inr ⟨rfl, rfl⟩, ⟨Or.inl rfl, ⟨Or.inr ⟨rfl, rfl⟩, ⟨Or.inl rfl, ⟨Or.inl rfl, ⟨Or.inl rfl, trivial⟩⟩⟩⟩⟩⟩⟩⟩ ?_
        exact hX121 x3 s k
      · have k := k.2 c
        refine Ex.seg hq 3 (j := 33) (L' := [.ref 55, .int x1, .int x2, .int x3, .int x4, pu, pu, pu]) (S' := [.int x4, .ref 104]) (h' := hpS s) rfl ?_
        obtain ⟨hin, k⟩ := k
        refine Ex.ial hq rfl rfl hin ?_
        refine Ex.seg hq 7 (j := 41) (L' := [.ref 55, .int x1, .int x2, .int x3, .int x4, .int ((s.2.1 104) (x4).toNatClampNeg), pu, pu]) (S' := [.int (((s.2.1 104) (x4).toNatClampNeg) + (1 : Int32)), .int x4, .ref 104]) (h' := hpS s) rfl ?_
        obtain ⟨hin, k⟩ := k
        refine Ex.ias hq rfl rfl hin (h' := hpS (sA s 104 (upd (s.2.1 104) (x4).toNatClampNeg (((s.2.1 104) (x4).toNatClampNeg) + (1 : Int32))))) (hset_104 _ _) ?_
        refine Ex.seg hq 3 (j := 45) (L' := [.ref 55, .int x1, .int x2, .int x3, .int x4, .int ((s.2.1 104) (x4).toNatClampNeg), pu, pu]) (S' := [.int (s.1 5520), .int ((s.2.1 104) (x4).toNatClampNeg)]) (h' := hpS (sA s 104 (upd (s.2.1 104) (x4).toNatClampNeg (((s.2.1 104) (x4).toNatClampNeg) + (1 : Int32))))) rfl ?_
        refine Ex.i2 hq rfl (fun c => ?_) (fun c => ?_)
        · have k := k.1 c
          refine Ex.seg hq 3 (j := 54) (L' := [.ref 55, .int x1, .int x2, .int x3, .int x4, .int ((s.2.1 104) (x4).toNatClampNeg), pu, pu]) (S' := [.int ((s.2.1 104) (x4).toNatClampNeg), .ref 72]) (h' := hpS (sA s 104 (upd (s.2.1 104) (x4).toNatClampNeg (((s.2.1 104) (x4).toNatClampNeg) + (1 : Int32))))) rfl ?_
          obtain ⟨hin, k⟩ := k
          refine Ex.ial hq rfl rfl hin ?_
          refine Ex.seg hq 4 (j := 59) (L' := [.ref 55, .int x1, .int x2, .int x3, .int x4, .int ((s.2.1 104) (x4).toNatClampNeg), .int ((s.2.1 72) (((s.2.1 104) (x4).toNatClampNeg)).toNatClampNeg), pu]) (S' := [.int ((s.2.1 72) (((s.2.1 104) (x4).toNatClampNeg)).toNatClampNeg), .ref 57]) (h' := hpS (sA s 104 (upd (s.2.1 104) (x4).toNatClampNeg (((s.2.1 104) (x4).toNatClampNeg) + (1 : Int32))))) rfl ?_
          obtain ⟨hin, k⟩ := k
          refine Ex.ial hq rfl rfl hin ?_
          refine Ex.seg hq 1 (j := 61) (L' := [.ref 55, .int x1, .int x2, .int x3, .int x4, .int ((s.2.1 104) (x4).toNatClampNeg), .int ((s.2.1 72) (((s.2.1 104) (x4).toNatClampNeg)).toNatClampNeg), pu]) (S' := [.int (2 : Int32), .int ((s.2.1 57) (((s.2.1 72) (((s.2.1 104) (x4).toNatClampNeg)).toNatClampNeg)).toNatClampNeg)]) (h' := hpS (sA s 104 (upd (s.2.1 104) (x4).toNatClampNeg (((s.2.1 104) (x4).toNatClampNeg) + (1 : Int32))))) rfl ?_
          refine Ex.i2 hq rfl (fun c => ?_) (fun c => ?_)
          · have k := k.1 c
            refine Ex.fg (L := [.ref 55, .int x1, .int x2, .int x3, .int x4, pu, pu, pu]) ⟨Or.inl rfl, ⟨Or.inl rfl, ⟨Or.inl rfl, ⟨Or.inl rfl, ⟨Or.inl rfl, ⟨Or.inr ⟨rfl, rfl⟩, ⟨Or.inr ⟨rfl, rfl⟩, ⟨Or.inl rfl, trivial⟩⟩⟩⟩⟩⟩⟩⟩ ?_
            exact ih x1 x2 x3 x4 (sA s 104 (upd (s.2.1 104) (x4).toNatClampNeg (((s.2.1 104) (x4).toNatClampNeg) + (1 : Int32)))) k hX121
          · have k := k.2 c
            refine Ex.seg hq 1 (j := 63) (L' := [.ref 55, .int x1, .int x2, .int x3, .int x4, .int ((s.2.1 104) (x4).toNatClampNeg), .int ((s.2.1 72) (((s.2.1 104) (x4).toNatClampNeg)).toNatClampNeg), pu]) (S' := [.int x4]) (h' := hpS (sA s 104 (upd (s.2.1 104) (x4).toNatClampNeg (((s.2.1 104) (x4).toNatClampNeg) + (1 : Int32))))) rfl ?_
            refine Ex.i1 hq rfl (fun c => ?_) (fun c => ?_)
            · have k := k.1 c
              refine Ex.seg hq 4 (j := 76) (L' := [.ref 55, .int x1, .int x2, .int x3, .int x4, .int ((s.2.1 104) (x4).toNatClampNeg), .int ((s.2.1 72) (((s.2.1 104) (x4).toNatClampNeg)).toNatClampNeg), pu]) (S' := [.int ((s.2.1 72) (((s.2.1 104) (x4).toNatClampNeg)).toNatClampNeg), .int x4, .ref 103]) (h' := hpS (sA s 104 (upd (s.2.1 104) (x4).toNatClampNeg (((s.2.1 104) (x4).toNatClampNeg) + (1 : Int32))))) rfl ?_
              obtain ⟨hin, k⟩ := k
              refine Ex.ias hq rfl rfl hin (h' := hpS (sA (sA s 104 (upd (s.2.1 104) (x4).toNatClampNeg (((s.2.1 104) (x4).toNatClampNeg) + (1 : Int32)))) 103 (upd (s.2.1 103) (x4).toNatClampNeg ((s.2.1 72) (((s.2.1 104) (x4).toNatClampNeg)).toNatClampNeg)))) (hset_103 _ _) ?_
              refine Ex.seg hq 1 (j := 78) (L' := [.ref 55, .int x1, .int x2, .int x3, .int x4, .int ((s.2.1 104) (x4).toNatClampNeg), .int ((s.2.1 72) (((s.2.1 104) (x4).toNatClampNeg)).toNatClampNeg), pu]) (S' := [.int x4]) (h' := hpS (sA (sA s 104 (upd (s.2.1 104) (x4).toNatClampNeg (((s.2.1 104) (x4).toNatClampNeg) + (1 : Int32)))) 103 (upd (s.2.1 103) (x4).toNatClampNeg ((s.2.1 72) (((s.2.1 104) (x4).toNatClampNeg)).toNatClampNeg)))) rfl ?_
              refine Ex.i1 hq rfl (fun c => ?_) (fun c => ?_)
              · have k := k.1 c
                refine Ex.seg hq 12 (j := 107) (L' := [.ref 55, .int x1, .int x2, .int (x3 + (0 : Int32)), .int x4, .int ((s.2.1 104) (x4).toNatClampNeg), .int ((s.2.1 72) (((s.2.1 104) (x4).toNatClampNeg)).toNatClampNeg), .int (0 : Int32)]) (S' := [.int (5 : Int32), .int x4]) (h' := hpS (sA (sA s 104 (upd (s.2.1 104) (x4).toNatClampNeg (((s.2.1 104) (x4).toNatClampNeg) + (1 : Int32)))) 103 (upd (s.2.1 103) (x4).toNatClampNeg ((s.2.1 72) (((s.2.1 104) (x4).toNatClampNeg)).toNatClampNeg)))) rfl ?_
                refine Ex.i2 hq rfl (fun c => ?_) (fun c => ?_)
                · have k := k.1 c
                  refine Ex.seg hq 10 (j := 119) (L' := [.ref 55, .int x1, .int x2, .int (x3 + (0 : Int32)), .int (x4 + (1 : Int32)), .int ((s.2.1 104) (x4).toNatClampNeg), .int ((s.2.1 72) (((s.2.1 104) (x4).toNatClampNeg)).toNatClampNeg), .int (0 : Int32)]) (S' := [.int (((s.2.1 104) (x4).toNatClampNeg) + (1 : Int32)), .int (x4 + (1 : Int32)), .ref 104]) (h' := hpS (sA (sA s 104 (upd (s.2.1 104) (x4).toNatClampNeg (((s.2.1 104) (x4).toNatClampNeg) + (1 : Int32)))) 103 (upd (s.2.1 103) (x4).toNatClampNeg ((s.2.1 72) (((s.2.1 104) (x4).toNatClampNeg)).toNatClampNeg)))) rfl ?_
                  obtain ⟨hin, k⟩ := k
                  refine Ex.ias hq rfl rfl hin (h' := hpS (sA (sA s 103 (upd (s.2.1 103) (x4).toNatClampNeg ((s.2.1 72) (((s.2.1 104) (x4).toNatClampNeg)).toNatClampNeg))) 104 (upd (upd (s.2.1 104) (x4).toNatClampNeg (((s.2.1 104) (x4).toNatClampNeg) + (1 : Int32))) ((x4 + (1 : Int32))).toNatClampNeg (((s.2.1 104) (x4).toNatClampNeg) + (1 : Int32))))) (hset_104 _ _) ?_
                  refine Ex.seg hq 1 (j := 25) (L' := [.ref 55, .int x1, .int x2, .int (x3 + (0 : Int32)), .int (x4 + (1 : Int32)), .int ((s.2.1 104) (x4).toNatClampNeg), .int ((s.2.1 72) (((s.2.1 104) (x4).toNatClampNeg)).toNatClampNeg), .int (0 : Int32)]) (S' := []) (h' := hpS (sA (sA s 103 (upd (s.2.1 103) (x4).toNatClampNeg ((s.2.1 72) (((s.2.1 104) (x4).toNatClampNeg)).toNatClampNeg))) 104 (upd (upd (s.2.1 104) (x4).toNatClampNeg (((s.2.1 104) (x4).toNatClampNeg) + (1 : Int32))) ((x4 + (1 : Int32))).toNatClampNeg (((s.2.1 104) (x4).toNatClampNeg) + (1 : Int32))))) rfl ?_
                  refine Ex.fg (L := [.ref 55, .int x1, .int x2, .int (x3 + (0 : Int32)), .int (x4 + (1 : Int32)), pu, pu, pu]) ⟨Or.inl rfl, ⟨Or.inl rfl, ⟨Or.inl rfl, ⟨Or.inl rfl, ⟨Or.inl rfl, ⟨Or.inr ⟨rfl, rfl⟩, ⟨Or.inr ⟨rfl, rfl⟩, ⟨Or.inr ⟨rfl, rfl⟩, trivial⟩⟩⟩⟩⟩⟩⟩⟩ ?_
                  exact ih x1 x2 (x3 + (0 : Int32)) (x4 + (1 : Int32)) (sA (sA s 103 (upd (s.2.1 103) (x4).toNatClampNeg ((s.2.1 72) (((s.2.1 104) (x4).toNatClampNeg)).toNatClampNeg))) 104 (upd (upd (s.2.1 104) (x4).toNatClampNeg (((s.2.1 104) (x4).toNatClampNeg) + (1 : Int32))) ((x4 + (1 : Int32))).toNatClampNeg (((s.2.1 104) (x4).toNatClampNeg) + (1 : Int32)))) k hX121
                · have k := k.2 c
                  refine Ex.seg hq 1 (j := 25) (L' := [.ref 55, .int x1, .int x2, .int (x3 + (0 : Int32)), .int x4, .int ((s.2.1 104) (x4).toNatClampNeg), .int ((s.2.1 72) (((s.2.1 104) (x4).toNatClampNeg)).toNatClampNeg), .int (0 : Int32)]) (S' := []) (h' := hpS (sA (sA s 104 (upd (s.2.1 104) (x4).toNatClampNeg (((s.2.1 104) (x4).toNatClampNeg) + (1 : Int32)))) 103 (upd (s.2.1 103) (x4).toNatClampNeg ((s.2.1 72) (((s.2.1 104) (x4).toNatClampNeg)).toNatClampNeg)))) rfl ?_
                  refine Ex.fg (L := [.ref 55, .int x1, .int x2, .int (x3 + (0 : Int32)), .int x4, pu, pu, pu]) ⟨Or.inl rfl, ⟨Or.inl rfl, ⟨Or.inl rfl, ⟨Or.inl rfl, ⟨Or.inl rfl, ⟨Or.inr ⟨rfl, rfl⟩, ⟨Or.inr ⟨rfl, rfl⟩, ⟨Or.inr ⟨rfl, rfl⟩, trivial⟩⟩⟩⟩⟩⟩⟩⟩ ?_
                  exact ih x1 x2 (x3 + (0 : Int32)) x4 (sA (sA s 104 (upd (s.2.1 104) (x4).toNatClampNeg (((s.2.1 104) (x4).toNatClampNeg) + (1 : Int32)))) 103 (upd (s.2.1 103) (x4).toNatClampNeg ((s.2.1 72) (((s.2.1 104) (x4).toNatClampNeg)).toNatClampNeg))) k hX121
              · have k := k.2 c
                refine Ex.seg hq 3 (j := 82) (L' := [.ref 55, .int x1, .int x2, .int x3, .int x4, .int ((s.2.1 104) (x4).toNatClampNeg), .int ((s.2.1 72) (((s.2.1 104) (x4).toNatClampNeg)).toNatClampNeg), pu]) (S' := [.int ((s.2.1 72) (((s.2.1 104) (x4).toNatClampNeg)).toNatClampNeg), .ref 59]) (h' := hpS (sA (sA s 104 (upd (s.2.1 104) (x4).toNatClampNeg (((s.2.1 104) (x4).toNatClampNeg) + (1 : Int32)))) 103 (upd (s.2.1 103) (x4).toNatClampNeg ((s.2.1 72) (((s.2.1 104) (x4).toNatClampNeg)).toNatClampNeg)))) rfl ?_
                obtain ⟨hin, k⟩ := k
                refine Ex.ial hq rfl rfl hin ?_
                refine Ex.seg hq 5 (j := 88) (L' := [.ref 55, .int x1, .int x2, .int x3, .int x4, .int ((s.2.1 104) (x4).toNatClampNeg), .int ((s.2.1 72) (((s.2.1 104) (x4).toNatClampNeg)).toNatClampNeg), pu]) (S' := [.int (0 : Int32), .ref 103, .ref 58, .int ((s.2.1 59) (((s.2.1 72) (((s.2.1 104) (x4).toNatClampNeg)).toNatClampNeg)).toNatClampNeg)]) (h' := hpS (sA (sA s 104 (upd (s.2.1 104) (x4).toNatClampNeg (((s.2.1 104) (x4).toNatClampNeg) + (1 : Int32)))) 103 (upd (s.2.1 103) (x4).toNatClampNeg ((s.2.1 72) (((s.2.1 104) (x4).toNatClampNeg)).toNatClampNeg)))) rfl ?_
                obtain ⟨hin, k⟩ := k
                refine Ex.ial hq rfl rfl hin ?_
                obtain ⟨hin, k⟩ := k
                refine Ex.ial hq rfl rfl hin ?_
                refine Ex.i2 hq rfl (fun c => ?_) (fun c => ?_)
                · have k := k.1 c
                  refine Ex.seg hq 12 (j := 107) (L' := [.ref 55, .int x1, .int x2, .int (x3 + (0 : Int32)), .int x4, .int ((s.2.1 104) (x4).toNatClampNeg), .int ((s.2.1 72) (((s.2.1 104) (x4).toNatClampNeg)).toNatClampNeg), .int (0 : Int32)]) (S' := [.int (5 : Int32), .int x4]) (h' := hpS (sA (sA s 104 (upd (s.2.1 104) (x4).toNatClampNeg (((s.2.1 104) (x4).toNatClampNeg) + (1 : Int32)))) 103 (upd (s.2.1 103) (x4).toNatClampNeg ((s.2.1 72) (((s.2.1 104) (x4).toNatClampNeg)).toNatClampNeg)))) rfl ?_
                  refine Ex.i2 hq rfl (fun c => ?_) (fun c => ?_)
                  · have k := k.1 c
                    refine Ex.seg hq 10 (j := 119) (L' := [.ref 55, .int x1, .int x2, .int (x3 + (0 : Int32)), .int (x4 + (1 : Int32)), .int ((s.2.1 104) (x4).toNatClampNeg), .int ((s.2.1 72) (((s.2.1 104) (x4).toNatClampNeg)).toNatClampNeg), .int (0 : Int32)]) (S' := [.int (((s.2.1 104) (x4).toNatClampNeg) + (1 : Int32)), .int (x4 + (1 : Int32)), .ref 104]) (h' := hpS (sA (sA s 104 (upd (s.2.1 104) (x4).toNatClampNeg (((s.2.1 104) (x4).toNatClampNeg) + (1 : Int32)))) 103 (upd (s.2.1 103) (x4).toNatClampNeg ((s.2.1 72) (((s.2.1 104) (x4).toNatClampNeg)).toNatClampNeg)))) rfl ?_
                    obtain ⟨hin, k⟩ := k
                    refine Ex.ias hq rfl rfl hin (h' := hpS (sA (sA s 103 (upd (s.2.1 103) (x4).toNatClampNeg ((s.2.1 72) (((s.2.1 104) (x4).toNatClampNeg)).toNatClampNeg))) 104 (upd (upd (s.2.1 104) (x4).toNatClampNeg (((s.2.1 104) (x4).toNatClampNeg) + (1 : Int32))) ((x4 + (1 : Int32))).toNatClampNeg (((s.2.1 104) (x4).toNatClampNeg) + (1 : Int32))))) (hset_104 _ _) ?_
                    refine Ex.seg hq 1 (j := 25) (L' := [.ref 55, .int x1, .int x2, .int (x3 + (0 : Int32)), .int (x4 + (1 : Int32)), .int ((s.2.1 104) (x4).toNatClampNeg), .int ((s.2.1 72) (((s.2.1 104) (x4).toNatClampNeg)).toNatClampNeg), .int (0 : Int32)]) (S' := []) (h' := hpS (sA (sA s 103 (upd (s.2.1 103) (x4).toNatClampNeg ((s.2.1 72) (((s.2.1 104) (x4).toNatClampNeg)).toNatClampNeg))) 104 (upd (upd (s.2.1 104) (x4).toNatClampNeg (((s.2.1 104) (x4).toNatClampNeg) + (1 : Int32))) ((x4 + (1 : Int32))).toNatClampNeg (((s.2.1 104) (x4).toNatClampNeg) + (1 : Int32))))) rfl ?_
                    refine Ex.fg (L := [.ref 55, .int x1, .int x2, .int (x3 + (0 : Int32)), .int (x4 + (1 : Int32)), pu, pu, pu]) ⟨Or.inl rfl, ⟨Or.inl rfl, ⟨Or.inl rfl, ⟨Or.inl rfl, ⟨Or.inl rfl, ⟨Or.inr ⟨rfl, rfl⟩, ⟨Or.inr ⟨rfl, rfl⟩, ⟨Or.inr ⟨rfl, rfl⟩, trivial⟩⟩⟩⟩⟩⟩⟩⟩ ?_
                    exact ih x1 x2 (x3 + (0 : Int32)) (x4 + (1 : Int32)) (sA (sA s 103 (upd (s.2.1 103) (x4).toNatClampNeg ((s.2.1 72) (((s.2.1 104) (x4).toNatClampNeg)).toNatClampNeg))) 104 (upd (upd (s.2.1 104) (x4).toNatClampNeg (((s.2.1 104) (x4).toNatClampNeg) + (1 : Int32))) ((x4 + (1 : Int32))).toNatClampNeg (((s.2.1 104) (x4).toNatClampNeg) + (1 : Int32)))) k hX121
                  · have k := k.2 c
                    refine Ex.seg hq 1 (j := 25) (L' := [.ref 55, .int x1, .int x2, .int (x3 + (0 : Int32)), .int x4, .int ((s.2.1 104) (x4).toNatClampNeg), .int ((s.2.1 72) (((s.2.1 104) (x4).toNatClampNeg)).toNatClampNeg), .int (0 : Int32)]) (S' := []) (h' := hpS (sA (sA s 104 (upd (s.2.1 104) (x4).toNatClampNeg (((s.2.1 104) (x4).toNatClampNeg) + (1 : Int32)))) 103 (upd (s.2.1 103) (x4).toNatClampNeg ((s.2.1 72) (((s.2.1 104) (x4).toNatClampNeg)).toNatClampNeg)))) rfl ?_
                    refine Ex.fg (L := [.ref 55, .int x1, .int x2, .int (x3 + (0 : Int32)), .int x4, pu, pu, pu]) ⟨Or.inl rfl, ⟨Or.inl rfl, ⟨Or.inl rfl, ⟨Or.inl rfl, ⟨Or.inl rfl, ⟨Or.inr ⟨rfl, rfl⟩, ⟨Or.inr ⟨rfl, rfl⟩, ⟨Or.inr ⟨rfl, rfl⟩, trivial⟩⟩⟩⟩⟩⟩⟩⟩ ?_
                    exact ih x1 x2 (x3 + (0 : Int32)) x4 (sA (sA s 104 (upd (s.2.1 104) (x4).toNatClampNeg (((s.2.1 104) (x4).toNatClampNeg) + (1 : Int32)))) 103 (upd (s.2.1 103) (x4).toNatClampNeg ((s.2.1 72) (((s.2.1 104) (x4).toNatClampNeg)).toNatClampNeg))) k hX121
                · have k := k.2 c
                  refine Ex.seg hq 12 (j := 25) (L' := [.ref 55, .int x1, .int x2, .int (x3 + (1 : Int32)), .int x4, .int ((s.2.1 104) (x4).toNatClampNeg), .int ((s.2.1 72) (((s.2.1 104) (x4).toNatClampNeg)).toNatClampNeg), .int (1 : Int32)]) (S' := []) (h' := hpS (sA (sA s 104 (upd (s.2.1 104) (x4).toNatClampNeg (((s.2.1 104) (x4).toNatClampNeg) + (1 : Int32)))) 103 (upd (s.2.1 103) (x4).toNatClampNeg ((s.2.1 72) (((s.2.1 104) (x4).toNatClampNeg)).toNatClampNeg)))) rfl ?_
                  refine Ex.fg (L := [.ref 55, .int x1, .int x2, .int (x3 + (1 : Int32)), .int x4, pu, pu, pu]) ⟨Or.inl rfl, ⟨Or.inl rfl, ⟨Or.inl rfl, ⟨Or.inl rfl, ⟨Or.inl rfl, ⟨Or.inr ⟨rfl, rfl⟩, ⟨Or.inr ⟨rfl, rfl⟩, ⟨Or.inr ⟨rfl, rfl⟩, trivial⟩⟩⟩⟩⟩⟩⟩⟩ ?_
                  exact ih x1 x2 (x3 + (1 : Int32)) x4 (sA (sA s 104 (upd (s.2.1 104) (x4).toNatClampNeg (((s.2.1 104) (x4).toNatClampNeg) + (1 : Int32)))) 103 (upd (s.2.1 103) (x4).toNatClampNeg ((s.2.1 72) (((s.2.1 104) (x4).toNatClampNeg)).toNatClampNeg))) k hX121
            · have k := k.2 c
              refine Ex.seg hq 5 (j := 69) (L' := [.ref 55, .int x1, .int x2, .int x3, .int x4, .int ((s.2.1 104) (x4).toNatClampNeg), .int ((s.2.1 72) (((s.2.1 104) (x4).toNatClampNeg)).toNatClampNeg), pu]) (S' := [.int x2, .int x1, .int ((s.2.1 72) (((s.2.1 104) (x4).toNatClampNeg)).toNatClampNeg), .int x4, .ref 55]) (h' := hpS (sA s 104 (upd (s.2.1 104) (x4).toNatClampNeg (((s.2.1 104) (x4).toNatClampNeg) + (1 : Int32))))) rfl ?_
              refine Ex.cl hq rfl rfl ?_
              refine Rn.mono (q_251 (d := d + 1) x4 ((s.2.1 72) (((s.2.1 104) (x4).toNatClampNeg)).toNatClampNeg) x1 x2 (sA s 104 (upd (s.2.1 104) (x4).toNatClampNeg (((s.2.1 104) (x4).toNatClampNeg) + (1 : Int32)))) k) ?_
              rintro _ _ ⟨r8, s7, rfl, hzr8, rfl, k⟩
              show Ex sc (d + 2) 252 70 [.ref 55, .int x1, .int x2, .int x3, .int x4, .int ((s.2.1 104) (x4).toNatClampNeg), .int ((s.2.1 72) (((s.2.1 104) (x4).toNatClampNeg)).toNatClampNeg), pu] [.int r8] (hpS s7) _
              refine Ex.i1 hq rfl (fun c => ?_) (fun c => ?_)
              · have k := k.1 c
                refine Ex.seg hq 4 (j := 76) (L' := [.ref 55, .int x1, .int x2, .int x3, .int x4, .int ((s.2.1 104) (x4).toNatClampNeg), .int ((s.2.1 72) (((s.2.1 104) (x4).toNatClampNeg)).toNatClampNeg), pu]) (S' := [.int ((s.2.1 72) (((s.2.1 104) (x4).toNatClampNeg)).toNatClampNeg), .int x4, .ref 103]) (h' := hpS s7) rfl ?_
                obtain ⟨hin, k⟩ := k
                refine Ex.ias hq rfl rfl hin (h' := hpS (sA s7 103 (upd (s7.2.1 103) (x4).toNatClampNeg ((s.2.1 72) (((s.2.1 104) (x4).toNatClampNeg)).toNatClampNeg)))) (hset_103 _ _) ?_
                refine Ex.seg hq 1 (j := 78) (L' := [.ref 55, .int x1, .int x2, .int x3, .int x4, .int ((s.2.1 104) (x4).toNatClampNeg), .int ((s.2.1 72) (((s.2.1 104) (x4).toNatClampNeg)).toNatClampNeg), pu]) (S' := [.int x4]) (h' := hpS (sA s7 103 (upd (s7.2.1 103) (x4).toNatClampNeg ((s.2.1 72) (((s.2.1 104) (x4).toNatClampNeg)).toNatClampNeg)))) rfl ?_
                refine Ex.i1 hq rfl (fun c => ?_) (fun c => ?_)
                · have k := k.1 c
                  refine Ex.seg hq 12 (j := 107) (L' := [.ref 55, .int x1, .int x2, .int (x3 + (0 : Int32)), .int x4, .int ((s.2.1 104) (x4).toNatClampNeg), .int ((s.2.1 72) (((s.2.1 104) (x4).toNatClampNeg)).toNatClampNeg), .int (0 : Int32)]) (S' := [.int (5 : Int32), .int x4]) (h' := hpS (sA s7 103 (upd (s7.2.1 103) (x4).toNatClampNeg ((s.2.1 72) (((s.2.1 104) (x4).toNatClampNeg)).toNatClampNeg)))) rfl ?_
                  refine Ex.i2 hq rfl (fun c => ?_) (fun c => ?_)
                  · have k := k.1 c
                    refine Ex.seg hq 10 (j := 119) (L' := [.ref 55, .int x1, .int x2, .int (x3 + (0 : Int32)), .int (x4 + (1 : Int32)), .int ((s.2.1 104) (x4).toNatClampNeg), .int ((s.2.1 72) (((s.2.1 104) (x4).toNatClampNeg)).toNatClampNeg), .int (0 : Int32)]) (S' := [.int (((s.2.1 104) (x4).toNatClampNeg) + (1 : Int32)), .int (x4 + (1 : Int32)), .ref 104]) (h' := hpS (sA s7 103 (upd (s7.2.1 103) (x4).toNatClampNeg ((s.2.1 72) (((s.2.1 104) (x4).toNatClampNeg)).toNatClampNeg)))) rfl ?_
                    obtain ⟨hin, k⟩ := k
                    refine Ex.ias hq rfl rfl hin (h' := hpS (sA (sA s7 103 (upd (s7.2.1 103) (x4).toNatClampNeg ((s.2.1 72) (((s.2.1 104) (x4).toNatClampNeg)).toNatClampNeg))) 104 (upd (s7.2.1 104) ((x4 + (1 : Int32))).toNatClampNeg (((s.2.1 104) (x4).toNatClampNeg) + (1 : Int32))))) (hset_104 _ _) ?_
                    refine Ex.seg hq 1 (j := 25) (L' := [.ref 55, .int x1, .int x2, .int (x3 + (0 : Int32)), .int (x4 + (1 : Int32)), .int ((s.2.1 104) (x4).toNatClampNeg), .int ((s.2.1 72) (((s.2.1 104) (x4).toNatClampNeg)).toNatClampNeg), .int (0 : Int32)]) (S' := []) (h' := hpS (sA (sA s7 103 (upd (s7.2.1 103) (x4).toNatClampNeg ((s.2.1 72) (((s.2.1 104) (x4).toNatClampNeg)).toNatClampNeg))) 104 (upd (s7.2.1 104) ((x4 + (1 : Int32))).toNatClampNeg (((s.2.1 104) (x4).toNatClampNeg) + (1 : Int32))))) rfl ?_
                    refine Ex.fg (L := [.ref 55, .int x1, .int x2, .int (x3 + (0 : Int32)), .int (x4 + (1 : Int32)), pu, pu, pu]) ⟨Or.inl rfl, ⟨Or.inl rfl, ⟨Or.inl rfl, ⟨Or.inl rfl, ⟨Or.inl rfl, ⟨Or.inr ⟨rfl, rfl⟩, ⟨Or.inr ⟨rfl, rfl⟩, ⟨Or.inr ⟨rfl, rfl⟩, trivial⟩⟩⟩⟩⟩⟩⟩⟩ ?_
                    exact ih x1 x2 (x3 + (0 : Int32)) (x4 + (1 : Int32)) (sA (sA s7 103 (upd (s7.2.1 103) (x4).toNatClampNeg ((s.2.1 72) (((s.2.1 104) (x4).toNatClampNeg)).toNatClampNeg))) 104 (upd (s7.2.1 104) ((x4 + (1 : Int32))).toNatClampNeg (((s.2.1 104) (x4).toNatClampNeg) + (1 : Int32)))) k hX121
                  · have k := k.2 c
                    refine Ex.seg hq 1 (j := 25) (L' := [.ref 55, .int x1, .int x2, .int (x3 + (0 : Int32)), .int x4, .int ((s.2.1 104) (x4).toNatClampNeg), .int ((s.2.1 72) (((s.2.1 104) (x4).toNatClampNeg)).toNatClampNeg), .int (0 : Int32)]) (S' := []) (h' := hpS (sA s7 103 (upd (s7.2.1 103) (x4).toNatClampNeg ((s.2.1 72) (((s.2.1 104) (x4).toNatClampNeg)).toNatClampNeg)))) rfl ?_
                    refine Ex.fg (L := [.ref 55, .int x1, .int x2, .int (x3 + (0 : Int32)), .int x4, pu, pu, pu]) ⟨Or.inl rfl, ⟨Or.inl rfl, ⟨Or.inl rfl, ⟨Or.inl rfl, ⟨Or.inl rfl, ⟨Or.inr ⟨rfl, rfl⟩, ⟨Or.inr ⟨rfl, rfl⟩, ⟨Or.inr ⟨rfl, rfl⟩, trivial⟩⟩⟩⟩⟩⟩⟩⟩ ?_
                    exact ih x1 x2 (x3 + (0 : Int32)) x4 (sA s7 103 (upd (s7.2.1 103) (x4).toNatClampNeg ((s.2.1 72) (((s.2.1 104) (x4).toNatClampNeg)).toNatClampNeg))) k hX121
                · have k := k.2 c
                  refine Ex.seg hq 3 (j := 82) (L' := [.ref 55, .int x1, .int x2, .int x3, .int x4, .int ((s.2.1 104) (x4).toNatClampNeg), .int ((s.2.1 72) (((s.2.1 104) (x4).toNatClampNeg)).toNatClampNeg), pu]) (S' := [.int ((s.2.1 72) (((s.2.1 104) (x4).toNatClampNeg)).toNatClampNeg), .ref 59]) (h' := hpS (sA s7 103 (upd (s7.2.1 103) (x4).toNatClampNeg ((s.2.1 72) (((s.2.1 104) (x4).toNatClampNeg)).toNatClampNeg)))) rfl ?_
                  obtain ⟨hin, k⟩ := k
                  refine Ex.ial hq rfl rfl hin ?_
                  refine Ex.seg hq 5 (j := 88) (L' := [.ref 55, .int x1, .int x2, .int x3, .int x4, .int ((s.2.1 104) (x4).toNatClampNeg), .int ((s.2.1 72) (((s.2.1 104) (x4).toNatClampNeg)).toNatClampNeg), pu]) (S' := [.int (0 : Int32), .ref 103, .ref 58, .int ((s7.2.1 59) (((s.2.1 72) (((s.2.1 104) (x4).toNatClampNeg)).toNatClampNeg)).toNatClampNeg)]) (h' := hpS (sA s7 103 (upd (s7.2.1 103) (x4).toNatClampNeg ((s.2.1 72) (((s.2.1 104) (x4).toNatClampNeg)).toNatClampNeg)))) rfl ?_
                  obtain ⟨hin, k⟩ := k
                  refine Ex.ial hq rfl rfl hin ?_
                  obtain ⟨hin, k⟩ := k
                  refine Ex.ial hq rfl rfl hin ?_
                  refine Ex.i2 hq rfl (fun c => ?_) (fun c => ?_)
                  · have k := k.1 c
                    refine Ex.seg hq 12 (j := 107) (L' := [.ref 55, .int x1, .int x2, .int (x3 + (0 : Int32)), .int x4, .int ((s.2.1 104) (x4).toNatClampNeg), .int ((s.2.1 72) (((s.2.1 104) (x4).toNatClampNeg)).toNatClampNeg), .int (0 : Int32)]) (S' := [.int (5 : Int32), .int x4]) (h' := hpS (sA s7 103 (upd (s7.2.1 103) (x4).toNatClampNeg ((s.2.1 72) (((s.2.1 104) (x4).toNatClampNeg)).toNatClampNeg)))) rfl ?_
                    refine Ex.i2 hq rfl (fun c => ?_) (fun c => ?_)
                    · have k := k.1 c
                      refine Ex.seg hq 10 (j := 119) (L' := [.ref 55, .int x1, .int x2, .int (x3 + (0 : Int32)), .int (x4 + (1 : Int32)), .int ((s.2.1 104) (x4).toNatClampNeg), .int ((s.2.1 72) (((s.2.1 104) (x4).toNatClampNeg)).toNatClampNeg), .int (0 : Int32)]) (S' := [.int (((s.2.1 104) (x4).toNatClampNeg) + (1 : Int32)), .int (x4 + (1 : Int32)), .ref 104]) (h' := hpS (sA s7 103 (upd (s7.2.1 103) (x4).toNatClampNeg ((s.2.1 72) (((s.2.1 104) (x4).toNatClampNeg)).toNatClampNeg)))) rfl ?_
                      obtain ⟨hin, k⟩ := k
                      refine Ex.ias hq rfl rfl hin (h' := hpS (sA (sA s7 103 (upd (s7.2.1 103) (x4).toNatClampNeg ((s.2.1 72) (((s.2.1 104) (x4).toNatClampNeg)).toNatClampNeg))) 104 (upd (s7.2.1 104) ((x4 + (1 : Int32))).toNatClampNeg (((s.2.1 104) (x4).toNatClampNeg) + (1 : Int32))))) (hset_104 _ _) ?_
                      refine Ex.seg hq 1 (j := 25) (L' := [.ref 55, .int x1, .int x2, .int (x3 + (0 : Int32)), .int (x4 + (1 : Int32)), .int ((s.2.1 104) (x4).toNatClampNeg), .int ((s.2.1 72) (((s.2.1 104) (x4).toNatClampNeg)).toNatClampNeg), .int (0 : Int32)]) (S' := []) (h' := hpS (sA (sA s7 103 (upd (s7.2.1 103) (x4).toNatClampNeg ((s.2.1 72) (((s.2.1 104) (x4).toNatClampNeg)).toNatClampNeg))) 104 (upd (s7.2.1 104) ((x4 + (1 : Int32))).toNatClampNeg (((s.2.1 104) (x4).toNatClampNeg) + (1 : Int32))))) rfl ?_
                      refine Ex.fg (L := [.ref 55, .int x1, .int x2, .int (x3 + (0 : Int32)), .int (x4 + (1 : Int32)), pu, pu, pu]) ⟨Or.inl rfl, ⟨Or.inl rfl, ⟨Or.inl rfl, ⟨Or.inl rfl, ⟨Or.inl rfl, ⟨Or.inr ⟨rfl, rfl⟩, ⟨Or.inr ⟨rfl, rfl⟩, ⟨Or.inr ⟨rfl, rfl⟩, trivial⟩⟩⟩⟩⟩⟩⟩⟩ ?_
                      exact ih x1 x2 (x3 + (0 : Int32)) (x4 + (1 : Int32)) (sA (sA s7 103 (upd (s7.2.1 103) (x4).toNatClampNeg ((s.2.1 72) (((s.2.1 104) (x4).toNatClampNeg)).toNatClampNeg))) 104 (upd (s7.2.1 104) ((x4 + (1 : Int32))).toNatClampNeg (((s.2.1 104) (x4).toNatClampNeg) + (1 : Int32)))) k hX121
                    · have k := k.2 c
                      refine Ex.seg hq 1 (j := 25) (L' := [.ref 55, .int x1, .int x2, .int (x3 + (0 : Int32)), .int x4, .int ((s.2.1 104) (x4).toNatClampNeg), .int ((s.2.1 72) (((s.2.1 104) (x4).toNatClampNeg)).toNatClampNeg), .int (0 : Int32)]) (S' := []) (h' := hpS (sA s7 103 (upd (s7.2.1 103) (x4).toNatClampNeg ((s.2.1 72) (((s.2.1 104) (x4).toNatClampNeg)).toNatClampNeg)))) rfl ?_
                      refine Ex.fg (L := [.ref 55, .int x1, .int x2, .int (x3 + (0 : Int32)), .int x4, pu, pu, pu]) ⟨Or.inl rfl, ⟨Or.inl rfl, ⟨Or.inl rfl, ⟨Or.inl rfl, ⟨Or.inl rfl, ⟨Or.inr ⟨rfl, rfl⟩, ⟨Or.inr ⟨rfl, rfl⟩, ⟨Or.inr ⟨rfl, rfl⟩, trivial⟩⟩⟩⟩⟩⟩⟩⟩ ?_
                      exact ih x1 x2 (x3 + (0 : Int32)) x4 (sA s7 103 (upd (s7.2.1 103) (x4).toNatClampNeg ((s.2.1 72) (((s.2.1 104) (x4).toNatClampNeg)).toNatClampNeg))) k hX121
                  · have k := k.2 c
                    refine Ex.seg hq 12 (j := 25) (L' := [.ref 55, .int x1, .int x2, .int (x3 + (1 : Int32)), .int x4, .int ((s.2.1 104) (x4).toNatClampNeg), .int ((s.2.1 72) (((s.2.1 104) (x4).toNatClampNeg)).toNatClampNeg), .int (1 : Int32)]) (S' := []) (h' := hpS (sA s7 103 (upd (s7.2.1 103) (x4).toNatClampNeg ((s.2.1 72) (((s.2.1 104) (x4).toNatClampNeg)).toNatClampNeg)))) rfl ?_
                    refine Ex.fg (L := [.ref 55, .int x1, .int x2, .int (x3 + (1 : Int32)), .int x4, pu, pu, pu]) ⟨Or.inl rfl, ⟨Or.inl rfl, ⟨Or.inl rfl, ⟨Or.inl rfl, ⟨Or.inl rfl, ⟨Or.inr ⟨rfl, rfl⟩, ⟨Or.inr ⟨rfl, rfl⟩, ⟨Or.inr ⟨rfl, rfl⟩, trivial⟩⟩⟩⟩⟩⟩⟩⟩ ?_
                    exact ih x1 x2 (x3 + (1 : Int32)) x4 (sA s7 103 (upd (s7.2.1 103) (x4).toNatClampNeg ((s.2.1 72) (((s.2.1 104) (x4).toNatClampNeg)).toNatClampNeg))) k hX121
              · have k := k.2 c
                refine Ex.seg hq 1 (j := 25) (L' := [.ref 55, .int x1, .int x2, .int x3, .int x4, .int ((s.2.1 104) (x4).toNatClampNeg), .int ((s.2.1 72) (((s.2.1 104) (x4).toNatClampNeg)).toNatClampNeg), pu]) (S' := []) (h' := hpS s7) rfl ?_
                refine Ex.fg (L := [.ref 55, .int x1, .int x2, .int x3, .int x4, pu, pu, pu]) ⟨Or.inl rfl, ⟨Or.inl rfl, ⟨Or.inl rfl, ⟨Or.inl rfl, ⟨Or.inl rfl, ⟨Or.inr ⟨rfl, rfl⟩, ⟨Or.inr ⟨rfl, rfl⟩, ⟨Or.inl rfl, trivial⟩⟩⟩⟩⟩⟩⟩⟩ ?_
                exact ih x1 x2 x3 x4 s7 k hX121
        · have k := k.2 c
          refine Ex.seg hq 5 (j := 25) (L' := [.ref 55, .int x1, .int x2, .int x3, .int (x4 - (1 : Int32)), .int ((s.2.1 104) (x4).toNatClampNeg), pu, pu]) (S' := []) (h' := hpS (sA s 104 (upd (s.2.1 104) (x4).toNatClampNeg (((s.2.1 104) (x4).toNatClampNeg) + (1 : Int32))))) rfl ?_
          refine Ex.fg (L := [.ref 55, .int x1, .int x2, .int x3, .int (x4 - (1 : Int32)), pu, pu, pu]) ⟨Or.inl rfl, ⟨Or.inl rfl, ⟨Or.inl rfl, ⟨Or.inl rfl, ⟨Or.inl rfl, ⟨Or.inr ⟨rfl, rfl⟩, ⟨Or.inl rfl, ⟨Or.inl rfl, trivial⟩⟩⟩⟩⟩⟩⟩⟩ ?_
          exact ih x1 x2 x3 (x4 - (1 : Int32)) (sA s 104 (upd (s.2.1 104) (x4).toNatClampNeg (((s.2.1 104) (x4).toNatClampNeg) + (1 : Int32)))) k hX121
/-- RowAuditorModel.rounds(II)I -/
def w_252 (p1 : Int32) (p2 : Int32) (s : ST) (K : Int32 → ST → Prop) : Prop := w_186 p1 (0 : Int32) (3999 : Int32) s (fun r2 s1 => ((r2 = 0 → K (-1 : Int32) s1) ∧ (¬ (r2 = 0) → w_186 p2 (0 : Int32) (100 : Int32) s1 (fun r4 s3 => ((¬ r4 = 0 → w_197 (s3.1 5500) s3 (fun s5 => (pin (0 : Int32) 6 = true ∧ (∃ m, w_252_L25 m p1 p2 (0 : Int32) (0 : Int32) (sA s5 104 (upd (s5.2.1 104) ((0 : Int32)).toNatClampNeg (0 : Int32))) (fun y3 s9 => K y3 s9) K)))) ∧ (¬ (¬ r4 = 0) → K (-1 : Int32) s3))))))
theorem q_252 {d : Nat} {K : Int32 → ST → Prop} (p1 : Int32) (p2 : Int32) (s : ST) (k : w_252 p1 p2 s K) : Rn sc (d + 2) 252 [.ref 55, .int p1, .int p2] (hpS s) (kI K) := by
  have hq : prog[252]? = some pm252 := rfl
  refine Rn.of (L := [.ref 55, .int p1, .int p2, pu, pu, pu, pu, pu]) hq rfl rfl ?_
  unfold w_252 at k
  refine Ex.seg hq 3 (j := 3) (L' := [.ref 55, .int p1, .int p2, pu, pu, pu, pu, pu]) (S' := [.int (3999 : Int32), .int (0 : Int32), .int p1]) (h' := hpS s) rfl ?_
  refine Ex.cl hq rfl rfl ?_
  refine Rn.mono (q_186 (d := d + 1) p1 (0 : Int32) (3999 : Int32) s k) ?_
  rintro _ _ ⟨r2, s1, rfl, hzr2, rfl, k⟩
  show Ex sc (d + 2) 252 4 [.ref 55, .int p1, .int p2, pu, pu, pu, pu, pu] [.int r2] (hpS s1) _
  refine Ex.i1 hq rfl (fun c => ?_) (fun c => ?_)
  · have k := k.1 c
    refine Ex.seg hq 1 (j := 11) (L' := [.ref 55, .int p1, .int p2, pu, pu, pu, pu, pu]) (S' := [.int (-1 : Int32)]) (h' := hpS s1) rfl ?_
    exact Ex.rt hq rfl rfl ⟨(-1 : Int32), s1, rfl, rfl, k⟩
  · have k := k.2 c
    refine Ex.seg hq 3 (j := 8) (L' := [.ref 55, .int p1, .int p2, pu, pu, pu, pu, pu]) (S' := [.int (100 : Int32), .int (0 : Int32), .int p2]) (h' := hpS s1) rfl ?_
    refine Ex.cl hq rfl rfl ?_
    refine Rn.mono (q_186 (d := d + 1) p2 (0 : Int32) (100 : Int32) s1 k) ?_
    rintro _ _ ⟨r4, s3, rfl, hzr4, rfl, k⟩
    show Ex sc (d + 2) 252 9 [.ref 55, .int p1, .int p2, pu, pu, pu, pu, pu] [.int r4] (hpS s3) _
    refine Ex.i1 hq rfl (fun c => ?_) (fun c => ?_)
    · have k := k.1 c
      refine Ex.seg hq 3 (j := 15) (L' := [.ref 55, .int p1, .int p2, pu, pu, pu, pu, pu]) (S' := [.int (s3.1 5500), .ref 55]) (h' := hpS s3) rfl ?_
      refine Ex.cl hq rfl rfl ?_
      refine Rn.mono (q_197 (d := d + 0) (s3.1 5500) s3 k) ?_
      rintro _ _ ⟨s5, rfl, rfl, k⟩
      show Ex sc (d + 2) 252 16 [.ref 55, .int p1, .int p2, pu, pu, pu, pu, pu] [] (hpS s5) _
      refine Ex.seg hq 8 (j := 24) (L' := [.ref 55, .int p1, .int p2, .int (0 : Int32), .int (0 : Int32), pu, pu, pu]) (S' := [.int (0 : Int32), .int (0 : Int32), .ref 104]) (h' := hpS s5) rfl ?_
      obtain ⟨hin, k⟩ := k
      refine Ex.ias hq rfl rfl hin (h' := hpS (sA s5 104 (upd (s5.2.1 104) ((0 : Int32)).toNatClampNeg (0 : Int32)))) (hset_104 _ _) ?_
      obtain ⟨m, k⟩ := k
      refine q_252_L25 (d := d) m p1 p2 (0 : Int32) (0 : Int32) (sA s5 104 (upd (s5.2.1 104) ((0 : Int32)).toNatClampNeg (0 : Int32))) k ?_
      · intro y3 s9 k
        refine Ex.seg hq 1 (j := 122) (L' := [pu, pu, pu, .int y3, pu, pu, pu, pu]) (S' := [.int y3]) (h' := hpS s9) rfl ?_
        exact Ex.rt hq rfl rfl ⟨y3, s9, rfl, rfl, k⟩
    · have k := k.2 c
      refine Ex.seg hq 1 (j := 11) (L' := [.ref 55, .int p1, .int p2, pu, pu, pu, pu, pu]) (S' := [.int (-1 : Int32)]) (h' := hpS s3) rfl ?_
      exact Ex.rt hq rfl rfl ⟨(-1 : Int32), s3, rfl, rfl, k⟩
/-- RowAuditorModel.isAlike(III)Z -/
def w_253 (p1 : Int32) (p2 : Int32) (p3 : Int32) (s : ST) (K : Int32 → ST → Prop) : Prop := (pin (((10 : Int32) * ((20 : Int32) + p1)) + p2) 260 = true ∧ (pin (0 : Int32) 6 = true ∧ ((¬ (((s.2.1 90) ((((10 : Int32) * ((20 : Int32) + p1)) + p2)).toNatClampNeg) &&& (1 : Int32)) = (1 : Int32) → ((¬ (((s.2.1 90) ((((10 : Int32) * ((20 : Int32) + p1)) + p2)).toNatClampNeg) &&& (2 : Int32)) = (2 : Int32) → (((((s.2.1 90) ((((10 : Int32) * ((20 : Int32) + p1)) + p2)).toNatClampNeg) &&& (4 : Int32)) = 0 → K (1 : Int32) s) ∧ (¬ ((((s.2.1 90) ((((10 : Int32) * ((20 : Int32) + p1)) + p2)).toNatClampNeg) &&& (4 : Int32)) = 0) → (pin p3 150 = true ∧ (pin ((s.2.1 103) ((0 : Int32)).toNatClampNeg) 150 = true ∧ ((¬ ((s.2.1 58) (p3).toNatClampNeg) = ((s.2.1 58) (((s.2.1 103) ((0 : Int32)).toNatClampNeg)).toNatClampNeg) → K (0 : Int32) s) ∧ (¬ (¬ ((s.2.1 58) (p3).toNatClampNeg) = ((s.2.1 58) (((s.2.1 103) ((0 : Int32)).toNatClampNeg)).toNatClampNeg)) → K (1 : Int32) s))))))) ∧ (¬ (¬ (((s.2.1 90) ((((10 : Int32) * ((20 : Int32) + p1)) + p2)).toNatClampNeg) &&& (2 : Int32)) = (2 : Int32)) → (pin p3 150 = true ∧ (pin ((s.2.1 103) ((0 : Int32)).toNatClampNeg) 150 = true ∧ ((((s.2.1 63) (p3).toNatClampNeg) = ((s.2.1 63) (((s.2.1 103) ((0 : Int32)).toNatClampNeg)).toNatClampNeg) → (((((s.2.1 90) ((((10 : Int32) * ((20 : Int32) + p1)) + p2)).toNatClampNeg) &&& (4 : Int32)) = 0 → K (1 : Int32) s) ∧ (¬ ((((s.2.1 90) ((((10 : Int32) * ((20 : Int32) + p1)) + p2)).toNatClampNeg) &&& (4 : Int32)) = 0) → (pin p3 150 = true ∧ (pin ((s.2.1 103) ((0 : Int32)).toNatClampNeg) 150 = true ∧ ((¬ ((s.2.1 58) (p3).toNatClampNeg) = ((s.2.1 58) (((s.2.1 103) ((0 : Int32)).toNatClampNeg)).toNatClampNeg) → K (0 : Int32) s) ∧ (¬ (¬ ((s.2.1 58) (p3).toNatClampNeg) = ((s.2.1 58) (((s.2.1 103) ((0 : Int32)).toNatClampNeg)).toNatClampNeg)) → K (1 : Int32) s))))))) ∧ (¬ (((s.2.1 63) (p3).toNatClampNeg) = ((s.2.1 63) (((s.2.1 103) ((0 : Int32)).toNatClampNeg)).toNatClampNeg)) → K (0 : Int32) s))))))) ∧ (¬ (¬ (((s.2.1 90) ((((10 : Int32) * ((20 : Int32) + p1)) + p2)).toNatClampNeg) &&& (1 : Int32)) = (1 : Int32)) → w_229 p3 s (fun r2 s1 => w_229 ((s.2.1 103) ((0 : Int32)).toNatClampNeg) s1 (fun r4 s3 => ((r2 = r4 → ((¬ (((s.2.1 90) ((((10 : Int32) * ((20 : Int32) + p1)) + p2)).toNatClampNeg) &&& (2 : Int32)) = (2 : Int32) → (((((s.2.1 90) ((((10 : Int32) * ((20 : Int32) + p1)) + p2)).toNatClampNeg) &&& (4 : Int32)) = 0 → K (1 : Int32) s3) ∧ (¬ ((((s.2.1 90) ((((10 : Int32) * ((20 : Int32) + p1)) + p2)).toNatClampNeg) &&& (4 : Int32)) = 0) → (pin p3 150 = true ∧ (pin ((s.2.1 103) ((0 : Int32)).toNatClampNeg) 150 = true ∧ ((¬ ((s3.2.1 58) (p3).toNatClampNeg) = ((s3.2.1 58) (((s.2.1 103) ((0 : Int32)).toNatClampNeg)).toNatClampNeg) → K (0 : Int32) s3) ∧ (¬ (¬ ((s3.2.1 58) (p3).toNatClampNeg) = ((s3.2.1 58) (((s.2.1 103) ((0 : Int32)).toNatClampNeg)).toNatClampNeg)) → K (1 : Int32) s3))))))) ∧ (¬ (¬ (((s.2.1 90) ((((10 : Int32) * ((20 : Int32) + p1)) + p2)).toNatClampNeg) &&& (2 : Int32)) = (2 : Int32)) → (pin p3 150 = true ∧ (pin ((s.2.1 103) ((0 : Int32)).toNatClampNeg) 150 = true ∧ ((((s3.2.1 63) (p3).toNatClampNeg) = ((s3.2.1 63) (((s.2.1 103) ((0 : Int32)).toNatClampNeg)).toNatClampNeg) → (((((s.2.1 90) ((((10 : Int32) * ((20 : Int32) + p1)) + p2)).toNatClampNeg) &&& (4 : Int32)) = 0 → K (1 : Int32) s3) ∧ (¬ ((((s.2.1 90) ((((10 : Int32) * ((20 : Int32) + p1)) + p2)).toNatClampNeg) &&& (4 : Int32)) = 0) → (pin p3 150 = true ∧ (pin ((s.2.1 103) ((0 : Int32)).toNatClampNeg) 150 = true ∧ ((¬ ((s3.2.1 58) (p3).toNatClampNeg) = ((s3.2.1 58) (((s.2.1 103) ((0 : Int32)).toNatClampNeg)).toNatClampNeg) → K (0 : Int32) s3) ∧ (¬ (¬ ((s3.2.1 58) (p3).toNatClampNeg) = ((s3.2.1 58) (((s.2.1 103) ((0 : Int32)).toNatClampNeg)).toNatClampNeg)) → K (1 : Int32) s3))))))) ∧ (¬ (((s3.2.1 63) (p3).toNatClampNeg) = ((s3.2.1 63) (((s.2.1 103) ((0 : Int32)).toNatClampNeg)).toNatClampNeg)) → K (0 : Int32) s3))))))) ∧ (¬ (r2 = r4) → K (0 : Int32) s3))))))))
theorem q_253 {d : Nat} {K : Int32 → ST → Prop} (p1 : Int32) (p2 : Int32) (p3 : Int32) (s : ST) (k : w_253 p1 p2 p3 s K) : Rn sc (d + 1) 253 [.ref 55, .int p1, .int p2, .int p3] (hpS s) (kZ K) := by
  have hq : prog[253]? = some pm253 := rfl
  refine Rn.of (L := [.ref 55, .int p1, .int p2, .int p3, pu, pu]) hq rfl rfl ?_
  unfold w_253 at k
  refine Ex.seg hq 9 (j := 9) (L' := [.ref 55, .int p1, .int p2, .int p3, pu, pu]) (S' := [.int (((10 : Int32) * ((20 : Int32) + p1)) + p2), .ref 90]) (h' := hpS s) rfl ?_
  obtain ⟨hin, k⟩ := k
  refine Ex.ial hq rfl rfl hin ?_
  refine Ex.seg hq 4 (j := 14) (L' := [.ref 55, .int p1, .int p2, .int p3, .int ((s.2.1 90) ((((10 : Int32) * ((20 : Int32) + p1)) + p2)).toNatClampNeg), pu]) (S' := [.int (0 : Int32), .ref 103]) (h' := hpS s) rfl ?_
  obtain ⟨hin, k⟩ := k
  refine Ex.ial hq rfl rfl hin ?_
  refine Ex.seg hq 5 (j := 20) (L' := [.ref 55, .int p1, .int p2, .int p3, .int ((s.2.1 90) ((((10 : Int32) * ((20 : Int32) + p1)) + p2)).toNatClampNeg), .int ((s.2.1 103) ((0 : Int32)).toNatClampNeg)]) (S' := [.int (1 : Int32), .int (((s.2.1 90) ((((10 : Int32) * ((20 : Int32) + p1)) + p2)).toNatClampNeg) &&& (1 : Int32))]) (h' := hpS s) rfl ?_
  refine Ex.i2 hq rfl (fun c => ?_) (fun c => ?_)
  · have k := k.1 c
    refine Ex.seg hq 4 (j := 34) (L' := [.ref 55, .int p1, .int p2, .int p3, .int ((s.2.1 90) ((((10 : Int32) * ((20 : Int32) + p1)) + p2)).toNatClampNeg), .int ((s.2.1 103) ((0 : Int32)).toNatClampNeg)]) (S' := [.int (2 : Int32), .int (((s.2.1 90) ((((10 : Int32) * ((20 : Int32) + p1)) + p2)).toNatClampNeg) &&& (2 : Int32))]) (h' := hpS s) rfl ?_
    refine Ex.i2 hq rfl (fun c => ?_) (fun c => ?_)
    · have k := k.1 c
      refine Ex.seg hq 3 (j := 49) (L' := [.ref 55, .int p1, .int p2, .int p3, .int ((s.2.1 90) ((((10 : Int32) * ((20 : Int32) + p1)) + p2)).toNatClampNeg), .int ((s.2.1 103) ((0 : Int32)).toNatClampNeg)]) (S' := [.int (((s.2.1 90) ((((10 : Int32) * ((20 : Int32) + p1)) + p2)).toNatClampNeg) &&& (4 : Int32))]) (h' := hpS s) rfl ?_
      refine Ex.i1 hq rfl (fun c => ?_) (fun c => ?_)
      · have k := k.1 c
        refine Ex.seg hq 2 (j := 62) (L' := [.ref 55, .int p1, .int p2, .int p3, .int ((s.2.1 90) ((((10 : Int32) * ((20 : Int32) + p1)) + p2)).toNatClampNeg), .int ((s.2.1 103) ((0 : Int32)).toNatClampNeg)]) (S' := [.int (1 : Int32)]) (h' := hpS s) rfl ?_
        exact Ex.zr hq rfl rfl (Or.inr rfl) ⟨(1 : Int32), s, rfl, (Or.inr rfl), rfl, k⟩
      · have k := k.2 c
        refine Ex.seg hq 3 (j := 53) (L' := [.ref 55, .int p1, .int p2, .int p3, .int ((s.2.1 90) ((((10 : Int32) * ((20 : Int32) + p1)) + p2)).toNatClampNeg), .int ((s.2.1 103) ((0 : Int32)).toNatClampNeg)]) (S' := [.int p3, .ref 58]) (h' := hpS s) rfl ?_
        obtain ⟨hin, k⟩ := k
        refine Ex.ial hq rfl rfl hin ?_
        refine Ex.seg hq 3 (j := 57) (L' := [.ref 55, .int p1, .int p2, .int p3, .int ((s.2.1 90) ((((10 : Int32) * ((20 : Int32) + p1)) + p2)).toNatClampNeg), .int ((s.2.1 103) ((0 : Int32)).toNatClampNeg)]) (S' := [.int ((s.2.1 103) ((0 : Int32)).toNatClampNeg), .ref 58, .int ((s.2.1 58) (p3).toNatClampNeg)]) (h' := hpS s) rfl ?_
        obtain ⟨hin, k⟩ := k
        refine Ex.ial hq rfl rfl hin ?_
        refine Ex.i2 hq rfl (fun c => ?_) (fun c => ?_)
        · have k := k.1 c
          refine Ex.seg hq 1 (j := 62) (L' := [.ref 55, .int p1, .int p2, .int p3, .int ((s.2.1 90) ((((10 : Int32) * ((20 : Int32) + p1)) + p2)).toNatClampNeg), .int ((s.2.1 103) ((0 : Int32)).toNatClampNeg)]) (S' := [.int (0 : Int32)]) (h' := hpS s) rfl ?_
          exact Ex.zr hq rfl rfl (Or.inl rfl) ⟨(0 : Int32), s, rfl, (Or.inl rfl), rfl, k⟩
        · have k := k.2 c
          refine Ex.seg hq 2 (j := 62) (L' := [.ref 55, .int p1, .int p2, .int p3, .int ((s.2.1 90) ((((10 : Int32) * ((20 : Int32) + p1)) + p2)).toNatClampNeg), .int ((s.2.1 103) ((0 : Int32)).toNatClampNeg)]) (S' := [.int (1 : Int32)]) (h' := hpS s) rfl ?_
          exact Ex.zr hq rfl rfl (Or.inr rfl) ⟨(1 : Int32), s, rfl, (Or.inr rfl), rfl, k⟩
    · have k := k.2 c
      refine Ex.seg hq 3 (j := 38) (L' := [.ref 55, .int p1, .int p2, .int p3, .int ((s.2.1 90) ((((10 : Int32) * ((20 : Int32) + p1)) + p2)).toNatClampNeg), .int ((s.2.1 103) ((0 : Int32)).toNatClampNeg)]) (S' := [.int p3, .ref 63]) (h' := hpS s) rfl ?_
      obtain ⟨hin, k⟩ := k
      refine Ex.ial hq rfl rfl hin ?_
      refine Ex.seg hq 3 (j := 42) (L' := [.ref 55, .int p1, .int p2, .int p3, .int ((s.2.1 90) ((((10 : Int32) * ((20 : Int32) + p1)) + p2)).toNatClampNeg), .int ((s.2.1 103) ((0 : Int32)).toNatClampNeg)]) (S' := [.int ((s.2.1 103) ((0 : Int32)).toNatClampNeg), .ref 63, .int ((s.2.1 63) (p3).toNatClampNeg)]) (h' := hpS s) rfl ?_
      obtain ⟨hin, k⟩ := k
      refine Ex.ial hq rfl rfl hin ?_
      refine Ex.i2 hq rfl (fun c => ?_) (fun c => ?_)
      · have k := k.1 c
        refine Ex.seg hq 3 (j := 49) (L' := [.ref 55, .int p1, .int p2, .int p3, .int ((s.2.1 90) ((((10 : Int32) * ((20 : Int32) + p1)) + p2)).toNatClampNeg), .int ((s.2.1 103) ((0 : Int32)).toNatClampNeg)]) (S' := [.int (((s.2.1 90) ((((10 : Int32) * ((20 : Int32) + p1)) + p2)).toNatClampNeg) &&& (4 : Int32))]) (h' := hpS s) rfl ?_
        refine Ex.i1 hq rfl (fun c => ?_) (fun c => ?_)
        · have k := k.1 c
          refine Ex.seg hq 2 (j := 62) (L' := [.ref 55, .int p1, .int p2, .int p3, .int ((s.2.1 90) ((((10 : Int32) * ((20 : Int32) + p1)) + p2)).toNatClampNeg), .int ((s.2.1 103) ((0 : Int32)).toNatClampNeg)]) (S' := [.int (1 : Int32)]) (h' := hpS s) rfl ?_
          exact Ex.zr hq rfl rfl (Or.inr rfl) ⟨(1 : Int32), s, rfl, (Or.inr rfl), rfl, k⟩
        · have k := k.2 c
          refine Ex.seg hq 3 (j := 53) (L' := [.ref 55, .int p1, .int p2, .int p3, .int ((s.2.1 90) ((((10 : Int32) * ((20 : Int32) + p1)) + p2)).toNatClampNeg), .int ((s.2.1 103) ((0 : Int32)).toNatClampNeg)]) (S' := [.int p3, .ref 58]) (h' := hpS s) rfl ?_
          obtain ⟨hin, k⟩ := k
          refine Ex.ial hq rfl rfl hin ?_
          refine Ex.seg hq 3 (j := 57) (L' := [.ref 55, .int p1, .int p2, .int p3, .int ((s.2.1 90) ((((10 : Int32) * ((20 : Int32) + p1)) + p2)).toNatClampNeg), .int ((s.2.1 103) ((0 : Int32)).toNatClampNeg)]) (S' := [.int ((s.2.1 103) ((0 : Int32)).toNatClampNeg), .ref 58, .int ((s.2.1 58) (p3).toNatClampNeg)]) (h' := hpS s) rfl ?_
          obtain ⟨hin, k⟩ := k
          refine Ex.ial hq rfl rfl hin ?_
          refine Ex.i2 hq rfl (fun c => ?_) (fun c => ?_)
          · have k := k.1 c
            refine Ex.seg hq 1 (j := 62) (L' := [.ref 55, .int p1, .int p2, .int p3, .int ((s.2.1 90) ((((10 : Int32) * ((20 : Int32) + p1)) + p2)).toNatClampNeg), .int ((s.2.1 103) ((0 : Int32)).toNatClampNeg)]) (S' := [.int (0 : Int32)]) (h' := hpS s) rfl ?_
            exact Ex.zr hq rfl rfl (Or.inl rfl) ⟨(0 : Int32), s, rfl, (Or.inl rfl), rfl, k⟩
          · have k := k.2 c
            refine Ex.seg hq 2 (j := 62) (L' := [.ref 55, .int p1, .int p2, .int p3, .int ((s.2.1 90) ((((10 : Int32) * ((20 : Int32) + p1)) + p2)).toNatClampNeg), .int ((s.2.1 103) ((0 : Int32)).toNatClampNeg)]) (S' := [.int (1 : Int32)]) (h' := hpS s) rfl ?_
            exact Ex.zr hq rfl rfl (Or.inr rfl) ⟨(1 : Int32), s, rfl, (Or.inr rfl), rfl, k⟩
      · have k := k.2 c
        refine Ex.seg hq 1 (j := 45) (L' := [.ref 55, .int p1, .int p2, .int p3, .int ((s.2.1 90) ((((10 : Int32) * ((20 : Int32) + p1)) + p2)).toNatClampNeg), .int ((s.2.1 103) ((0 : Int32)).toNatClampNeg)]) (S' := [.int (0 : Int32)]) (h' := hpS s) rfl ?_
        exact Ex.zr hq rfl rfl (Or.inl rfl) ⟨(0 : Int32), s, rfl, (Or.inl rfl), rfl, k⟩
  · have k := k.2 c
    refine Ex.seg hq 2 (j := 23) (L' := [.ref 55, .int p1, .int p2, .int p3, .int ((s.2.1 90) ((((10 : Int32) * ((20 : Int32) + p1)) + p2)).toNatClampNeg), .int ((s.2.1 103) ((0 : Int32)).toNatClampNeg)]) (S' := [.int p3, .ref 55]) (h' := hpS s) rfl ?_
    refine Ex.cl hq rfl rfl ?_
    refine Rn.mono (q_229 (d := d + 0) p3 s k) ?_
    rintro _ _ ⟨r2, s1, rfl, rfl, k⟩
    show Ex sc (d + 1) 253 24 [.ref 55, .int p1, .int p2, .int p3, .int ((s.2.1 90) ((((10 : Int32) * ((20 : Int32) + p1)) + p2)).toNatClampNeg), .int ((s.2.1 103) ((0 : Int32)).toNatClampNeg)] [.int r2] (hpS s1) _
    refine Ex.seg hq 2 (j := 26) (L' := [.ref 55, .int p1, .int p2, .int p3, .int ((s.2.1 90) ((((10 : Int32) * ((20 : Int32) + p1)) + p2)).toNatClampNeg), .int ((s.2.1 103) ((0 : Int32)).toNatClampNeg)]) (S' := [.int ((s.2.1 103) ((0 : Int32)).toNatClampNeg), .ref 55, .int r2]) (h' := hpS s1) rfl ?_
    refine Ex.cl hq rfl rfl ?_
    refine Rn.mono (q_229 (d := d + 0) ((s.2.1 103) ((0 : Int32)).toNatClampNeg) s1 k) ?_
    rintro _ _ ⟨r4, s3, rfl, rfl, k⟩
    show Ex sc (d + 1) 253 27 [.ref 55, .int p1, .int p2, .int p3, .int ((s.2.1 90) ((((10 : Int32) * ((20 : Int32) + p1)) + p2)).toNatClampNeg), .int ((s.2.1 103) ((0 : Int32)).toNatClampNeg)] [.int r4, .int r2] (hpS s3) _
    refine Ex.i2 hq rfl (fun c => ?_) (fun c => ?_)
    · have k := k.1 c
      refine Ex.seg hq 4 (j := 34) (L' := [.ref 55, .int p1, .int p2, .int p3, .int ((s.2.1 90) ((((10 : Int32) * ((20 : Int32) + p1)) + p2)).toNatClampNeg), .int ((s.2.1 103) ((0 : Int32)).toNatClampNeg)]) (S' := [.int (2 : Int32), .int (((s.2.1 90) ((((10 : Int32) * ((20 : Int32) + p1)) + p2)).toNatClampNeg) &&& (2 : Int32))]) (h' := hpS s3) rfl ?_
      refine Ex.i2 hq rfl (fun c => ?_) (fun c => ?_)
      · have k := k.1 c
        refine Ex.seg hq 3 (j := 49) (L' := [.ref 55, .int p1, .int p2, .int p3, .int ((s.2.1 90) ((((10 : Int32) * ((20 : Int32) + p1)) + p2)).toNatClampNeg), .int ((s.2.1 103) ((0 : Int32)).toNatClampNeg)]) (S' := [.int (((s.2.1 90) ((((10 : Int32) * ((20 : Int32) + p1)) + p2)).toNatClampNeg) &&& (4 : Int32))]) (h' := hpS s3) rfl ?_
        refine Ex.i1 hq rfl (fun c => ?_) (fun c => ?_)
        · have k := k.1 c
          refine Ex.seg hq 2 (j := 62) (L' := [.ref 55, .int p1, .int p2, .int p3, .int ((s.2.1 90) ((((10 : Int32) * ((20 : Int32) + p1)) + p2)).toNatClampNeg), .int ((s.2.1 103) ((0 : Int32)).toNatClampNeg)]) (S' := [.int (1 : Int32)]) (h' := hpS s3) rfl ?_
          exact Ex.zr hq rfl rfl (Or.inr rfl) ⟨(1 : Int32), s3, rfl, (Or.inr rfl), rfl, k⟩
        · have k := k.2 c
          refine Ex.seg hq 3 (j := 53) (L' := [.ref 55, .int p1, .int p2, .int p3, .int ((s.2.1 90) ((((10 : Int32) * ((20 : Int32) + p1)) + p2)).toNatClampNeg), .int ((s.2.1 103) ((0 : Int32)).toNatClampNeg)]) (S' := [.int p3, .ref 58]) (h' := hpS s3) rfl ?_
          obtain ⟨hin, k⟩ := k
          refine Ex.ial hq rfl rfl hin ?_
          refine Ex.seg hq 3 (j := 57) (L' := [.ref 55, .int p1, .int p2, .int p3, .int ((s.2.1 90) ((((10 : Int32) * ((20 : Int32) + p1)) + p2)).toNatClampNeg), .int ((s.2.1 103) ((0 : Int32)).toNatClampNeg)]) (S' := [.int ((s.2.1 103) ((0 : Int32)).toNatClampNeg), .ref 58, .int ((s3.2.1 58) (p3).toNatClampNeg)]) (h' := hpS s3) rfl ?_
          obtain ⟨hin, k⟩ := k
          refine Ex.ial hq rfl rfl hin ?_
          refine Ex.i2 hq rfl (fun c => ?_) (fun c => ?_)
          · have k := k.1 c
            refine Ex.seg hq 1 (j := 62) (L' := [.ref 55, .int p1, .int p2, .int p3, .int ((s.2.1 90) ((((10 : Int32) * ((20 : Int32) + p1)) + p2)).toNatClampNeg), .int ((s.2.1 103) ((0 : Int32)).toNatClampNeg)]) (S' := [.int (0 : Int32)]) (h' := hpS s3) rfl ?_
            exact Ex.zr hq rfl rfl (Or.inl rfl) ⟨(0 : Int32), s3, rfl, (Or.inl rfl), rfl, k⟩
          · have k := k.2 c
            refine Ex.seg hq 2 (j := 62) (L' := [.ref 55, .int p1, .int p2, .int p3, .int ((s.2.1 90) ((((10 : Int32) * ((20 : Int32) + p1)) + p2)).toNatClampNeg), .int ((s.2.1 103) ((0 : Int32)).toNatClampNeg)]) (S' := [.int (1 : Int32)]) (h' := hpS s3) rfl ?_
            exact Ex.zr hq rfl rfl (Or.inr rfl) ⟨(1 : Int32), s3, rfl, (Or.inr rfl), rfl, k⟩
      · have k := k.2 c
        refine Ex.seg hq 3 (j := 38) (L' := [.ref 55, .int p1, .int p2, .int p3, .int ((s.2.1 90) ((((10 : Int32) * ((20 : Int32) + p1)) + p2)).toNatClampNeg), .int ((s.2.1 103) ((0 : Int32)).toNatClampNeg)]) (S' := [.int p3, .ref 63]) (h' := hpS s3) rfl ?_
        obtain ⟨hin, k⟩ := k
        refine Ex.ial hq rfl rfl hin ?_
        refine Ex.seg hq 3 (j := 42) (L' := [.ref 55, .int p1, .int p2, .int p3, .int ((s.2.1 90) ((((10 : Int32) * ((20 : Int32) + p1)) + p2)).toNatClampNeg), .int ((s.2.1 103) ((0 : Int32)).toNatClampNeg)]) (S' := [.int ((s.2.1 103) ((0 : Int32)).toNatClampNeg), .ref 63, .int ((s3.2.1 63) (p3).toNatClampNeg)]) (h' := hpS s3) rfl ?_
        obtain ⟨hin, k⟩ := k
        refine Ex.ial hq rfl rfl hin ?_
        refine Ex.i2 hq rfl (fun c => ?_) (fun c => ?_)
        · have k := k.1 c
          refine Ex.seg hq 3 (j := 49) (L' := [.ref 55, .int p1, .int p2, .int p3, .int ((s.2.1 90) ((((10 : Int32) * ((20 : Int32) + p1)) + p2)).toNatClampNeg), .int ((s.2.1 103) ((0 : Int32)).toNatClampNeg)]) (S' := [.int (((s.2.1 90) ((((10 : Int32) * ((20 : Int32) + p1)) + p2)).toNatClampNeg) &&& (4 : Int32))]) (h' := hpS s3) rfl ?_
          refine Ex.i1 hq rfl (fun c => ?_) (fun c => ?_)
          · have k := k.1 c
            refine Ex.seg hq 2 (j := 62) (L' := [.ref 55, .int p1, .int p2, .int p3, .int ((s.2.1 90) ((((10 : Int32) * ((20 : Int32) + p1)) + p2)).toNatClampNeg), .int ((s.2.1 103) ((0 : Int32)).toNatClampNeg)]) (S' := [.int (1 : Int32)]) (h' := hpS s3) rfl ?_
            exact Ex.zr hq rfl rfl (Or.inr rfl) ⟨(1 : Int32), s3, rfl, (Or.inr rfl), rfl, k⟩
          · have k := k.2 c
            refine Ex.seg hq 3 (j := 53) (L' := [.ref 55, .int p1, .int p2, .int p3, .int ((s.2.1 90) ((((10 : Int32) * ((20 : Int32) + p1)) + p2)).toNatClampNeg), .int ((s.2.1 103) ((0 : Int32)).toNatClampNeg)]) (S' := [.int p3, .ref 58]) (h' := hpS s3) rfl ?_
            obtain ⟨hin, k⟩ := k
            refine Ex.ial hq rfl rfl hin ?_
            refine Ex.seg hq 3 (j := 57) (L' := [.ref 55, .int p1, .int p2, .int p3, .int ((s.2.1 90) ((((10 : Int32) * ((20 : Int32) + p1)) + p2)).toNatClampNeg), .int ((s.2.1 103) ((0 : Int32)).toNatClampNeg)]) (S' := [.int ((s.2.1 103) ((0 : Int32)).toNatClampNeg), .ref 58, .int ((s3.2.1 58) (p3).toNatClampNeg)]) (h' := hpS s3) rfl ?_
            obtain ⟨hin, k⟩ := k
            refine Ex.ial hq rfl rfl hin ?_
            refine Ex.i2 hq rfl (fun c => ?_) (fun c => ?_)
            · have k := k.1 c
              refine Ex.seg hq 1 (j := 62) (L' := [.ref 55, .int p1, .int p2, .int p3, .int ((s.2.1 90) ((((10 : Int32) * ((20 : Int32) + p1)) + p2)).toNatClampNeg), .int ((s.2.1 103) ((0 : Int32)).toNatClampNeg)]) (S' := [.int (0 : Int32)]) (h' := hpS s3) rfl ?_
              exact Ex.zr hq rfl rfl (Or.inl rfl) ⟨(0 : Int32), s3, rfl, (Or.inl rfl), rfl, k⟩
            · have k := k.2 c
              refine Ex.seg hq 2 (j := 62) (L' := [.ref 55, .int p1, .int p2, .int p3, .int ((s.2.1 90) ((((10 : Int32) * ((20 : Int32) + p1)) + p2)).toNatClampNeg), .int ((s.2.1 103) ((0 : Int32)).toNatClampNeg)]) (S' := [.int (1 : Int32)]) (h' := hpS s3) rfl ?_
              exact Ex.zr hq rfl rfl (Or.inr rfl) ⟨(1 : Int32), s3, rfl, (Or.inr rfl), rfl, k⟩
        · have k := k.2 c
          refine Ex.seg hq 1 (j := 45) (L' := [.ref 55, .int p1, .int p2, .int p3, .int ((s.2.1 90) ((((10 : Int32) * ((20 : Int32) + p1)) + p2)).toNatClampNeg), .int ((s.2.1 103) ((0 : Int32)).toNatClampNeg)]) (S' := [.int (0 : Int32)]) (h' := hpS s3) rfl ?_
          exact Ex.zr hq rfl rfl (Or.inl rfl) ⟨(0 : Int32), s3, rfl, (Or.inl rfl), rfl, k⟩
    · have k := k.2 c
      refine Ex.seg hq 1 (j := 29) (L' := [.ref 55, .int p1, .int p2, .int p3, .int ((s.2.1 90) ((((10 : Int32) * ((20 : Int32) + p1)) + p2)).toNatClampNeg), .int ((s.2.1 103) ((0 : Int32)).toNatClampNeg)]) (S' := [.int (0 : Int32)]) (h' := hpS s3) rfl ?_
      exact Ex.zr hq rfl rfl (Or.inl rfl) ⟨(0 : Int32), s3, rfl, (Or.inl rfl), rfl, k⟩
end WP
