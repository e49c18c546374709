/-! ===== weakest preconditions, printed by wip/whole/genwp.py ===== -/
section WP
variable {sc : Nat × (Nat → Int32)}
def w_106_L7 : Nat → Int32 → Int32 → ST → (Int32 → ST → Prop) → (ST → Prop) → Prop
  | 0, _, _, _, _, _ => False
  | n + 1, x1, x2, s, X36, K => (pin x1 9 = true ∧ ((((s.2.1 49) (x1).toNatClampNeg) ≤ x2 → X36 x1 s) ∧ (¬ (((s.2.1 49) (x1).toNatClampNeg) ≤ x2) → w_102 x1 x2 s (fun r2 s1 => w_104 x1 r2 s1 (fun r4 s3 => w_181 r4 (0 : Int32) ((Int32.ofNat 2304) - (1 : Int32)) s3 (fun r6 s5 => ((r6 = 0 → w_106_L7 n x1 (x2 + (1 : Int32)) s5 X36 K) ∧ (¬ (r6 = 0) → (pin r4 2304 = true ∧ w_106_L7 n x1 (x2 + (1 : Int32)) (sA s5 47 (upd (s5.2.1 47) (r4).toNatClampNeg (0 : Int32))) X36 K)))))))))
theorem q_106_L7 {d : Nat} {X36 : Int32 → ST → Prop} {K : ST → Prop} : ∀ (n : Nat) (x1 : Int32) (x2 : Int32) (s : ST), w_106_L7 n x1 x2 s X36 K → (∀ (y1 : Int32) (s : ST), X36 y1 s → Ex sc (d + 2) 106 36 [.ref 46, .int y1, pu, pu] [] (hpS s) (kV K)) → Ex sc (d + 2) 106 7 [.ref 46, .int x1, .int x2, pu] [] (hpS s) (kV K) := by
  have hq : prog[106]? = some pm106 := rfl
  intro n
  induction n with
  | zero =>
    intro x1 x2 s k
    exact k.elim
  | succ n ih =>
    intro x1 x2 s k hX36
    rw [w_106_L7] at k
    refine Ex.seg hq 4 (j := 11) (L' := [.ref 46, .int x1, .int x2, pu]) (S' := [.int x1, .ref 49, .int x2]) (h' := hpS s) rfl ?_
    obtain ⟨hin, k⟩ := k
    refine Ex.ial hq rfl rfl hin ?_
    refine Ex.i2 hq rfl (fun c => ?_) (fun c => ?_)
    · have k := k.1 c
      refine Ex.fg (L := [.ref 46, .int x1, pu, pu]) ⟨Or.inl rfl, ⟨Or.inl rfl, ⟨Or.inr ⟨rfl, rfl⟩, ⟨Or.inl rfl, trivial⟩⟩⟩⟩ ?_
      exact hX36 x1 s k
    · have k := k.2 c
      refine Ex.seg hq 4 (j := 17) (L' := [.ref 46, .int x1, .int x2, pu]) (S' := [.int x2, .int x1, .ref 46, .int x1]) (h' := hpS s) rfl ?_
      refine Ex.cl hq rfl rfl ?_
      refine Rn.mono (q_102 (d := d + 0) x1 x2 s k) ?_
      rintro _ _ ⟨r2, s1, rfl, rfl, k⟩
      show Ex sc (d + 2) 106 18 [.ref 46, .int x1, .int x2, pu] [.int r2, .int x1] (hpS s1) _
      refine Ex.cl hq rfl rfl ?_
      refine Rn.mono (q_104 (d := d + 1) x1 r2 s1 k) ?_
      rintro _ _ ⟨r4, s3, rfl, rfl, k⟩
      show Ex sc (d + 2) 106 19 [.ref 46, .int x1, .int x2, pu] [.int r4] (hpS s3) _
      refine Ex.seg hq 8 (j := 27) (L' := [.ref 46, .int x1, .int x2, .int r4]) (S' := [.int ((Int32.ofNat 2304) - (1 : Int32)), .int (0 : Int32), .int r4]) (h' := hpS s3) rfl ?_
      refine Ex.cl hq rfl rfl ?_
      refine Rn.mono (q_181 (d := d + 1) r4 (0 : Int32) ((Int32.ofNat 2304) - (1 : Int32)) s3 k) ?_
      rintro _ _ ⟨r6, s5, rfl, hzr6, rfl, k⟩
      show Ex sc (d + 2) 106 28 [.ref 46, .int x1, .int x2, .int r4] [.int r6] (hpS s5) _
      refine Ex.i1 hq rfl (fun c => ?_) (fun c => ?_)
      · have k := k.1 c
        refine Ex.seg hq 2 (j := 7) (L' := [.ref 46, .int x1, .int (x2 + (1 : Int32)), .int r4]) (S' := []) (h' := hpS s5) rfl ?_
        refine Ex.fg (L := [.ref 46, .int x1, .int (x2 + (1 : Int32)), pu]) ⟨Or.inl rfl, ⟨Or.inl rfl, ⟨Or.inl rfl, ⟨Or.inr ⟨rfl, rfl⟩, trivial⟩⟩⟩⟩ ?_
        exact ih x1 (x2 + (1 : Int32)) s5 k hX36
      · have k := k.2 c
        refine Ex.seg hq 4 (j := 33) (L' := [.ref 46, .int x1, .int x2, .int r4]) (S' := [.int (0 : Int32), .int r4, .ref 47]) (h' := hpS s5) rfl ?_
        obtain ⟨hin, k⟩ := k
        refine Ex.ias hq rfl rfl hin (h' := hpS (sA s5 47 (upd (s5.2.1 47) (r4).toNatClampNeg (0 : Int32)))) (hset_47 _ _) ?_
        refine Ex.seg hq 2 (j := 7) (L' := [.ref 46, .int x1, .int (x2 + (1 : Int32)), .int r4]) (S' := []) (h' := hpS (sA s5 47 (upd (s5.2.1 47) (r4).toNatClampNeg (0 : Int32)))) rfl ?_
        refine Ex.fg (L := [.ref 46, .int x1, .int (x2 + (1 : Int32)), pu]) ⟨Or.inl rfl, ⟨Or.inl rfl, ⟨Or.inl rfl, ⟨Or.inr ⟨rfl, rfl⟩, trivial⟩⟩⟩⟩ ?_
        exact ih x1 (x2 + (1 : Int32)) (sA s5 47 (upd (s5.2.1 47) (r4).toNatClampNeg (0 : Int32))) k hX36
def w_106_L2 : Nat → Int32 → ST → (ST → Prop) → (ST → Prop) → Prop
  | 0, _, _, _, _ => False
  | n + 1, x1, s, X43, K => (((9 : Int32) ≤ x1 → X43  s) ∧ (¬ ((9 : Int32) ≤ x1) → (∃ m, w_106_L7 m x1 (0 : Int32) s (fun y1 s1 => (pin y1 9 = true ∧ w_106_L2 n (y1 + (1 : Int32)) (sA s1 49 (upd (s1.2.1 49) (y1).toNatClampNeg (0 : Int32))) X43 K)) K)))
theorem q_106_L2 {d : Nat} {X43 : ST → Prop} {K : ST → Prop} : ∀ (n : Nat) (x1 : Int32) (s : ST), w_106_L2 n x1 s X43 K → (∀ (s : ST), X43  s → Ex sc (d + 2) 106 43 [pu, pu, pu, pu] [] (hpS s) (kV K)) → Ex sc (d + 2) 106 2 [.ref 46, .int x1, pu, pu] [] (hpS s) (kV K) := by
  have hq : prog[106]? = some pm106 := rfl
  intro n
  induction n with
  | zero =>
    intro x1 s k
    exact k.elim
  | succ n ih =>
    intro x1 s k hX43
    rw [w_106_L2] at k
    refine Ex.seg hq 2 (j := 4) (L' := [.ref 46, .int x1, pu, pu]) (S' := [.int (9 : Int32), .int x1]) (h' := hpS s) rfl ?_
    refine Ex.i2 hq rfl (fun c => ?_) (fun c => ?_)
    · have k := k.1 c
      refine Ex.fg (L := [pu, pu, pu, pu]) ⟨Or.inr ⟨rfl, rfl⟩, ⟨Or.inr ⟨rfl, rfl⟩, ⟨Or.inl rfl, ⟨Or.inl rfl, trivial⟩⟩⟩⟩ ?_
      exact hX43  s k
    · have k := k.2 c
      refine Ex.seg hq 2 (j := 7) (L' := [.ref 46, .int x1, .int (0 : Int32), pu]) (S' := []) (h' := hpS s) rfl ?_
      obtain ⟨m, k⟩ := k
      refine q_106_L7 (d := d) m x1 (0 : Int32) s k ?_
      · intro y1 s1 k
        refine Ex.seg hq 4 (j := 40) (L' := [.ref 46, .int y1, pu, pu]) (S' := [.int (0 : Int32), .int y1, .ref 49]) (h' := hpS s1) rfl ?_
        obtain ⟨hin, k⟩ := k
        refine Ex.ias hq rfl rfl hin (h' := hpS (sA s1 49 (upd (s1.2.1 49) (y1).toNatClampNeg (0 : Int32)))) (hset_49 _ _) ?_
        refine Ex.seg hq 2 (j := 2) (L' := [.ref 46, .int (y1 + (1 : Int32)), pu, pu]) (S' := []) (h' := hpS (sA s1 49 (upd (s1.2.1 49) (y1).toNatClampNeg (0 : Int32)))) rfl ?_
        exact ih (y1 + (1 : Int32)) (sA s1 49 (upd (s1.2.1 49) (y1).toNatClampNeg (0 : Int32))) k hX43
/-- RowAuditor$Rounder.forget()V -/
def w_106  (s : ST) (K : ST → Prop) : Prop := (∃ m, w_106_L2 m (0 : Int32) s (fun s2 => K s2) K)
theorem q_106 {d : Nat} {K : ST → Prop}  (s : ST) (k : w_106  s K) : Rn sc (d + 2) 106 [.ref 46] (hpS s) (kV K) := by
  have hq : prog[106]? = some pm106 := rfl
  refine Rn.of (L := [.ref 46, pu, pu, pu]) hq rfl rfl ?_
  unfold w_106 at k
  refine Ex.seg hq 2 (j := 2) (L' := [.ref 46, .int (0 : Int32), pu, pu]) (S' := []) (h' := hpS s) rfl ?_
  obtain ⟨m, k⟩ := k
  refine q_106_L2 (d := d) m (0 : Int32) s k ?_
  · intro s2 k
    exact Ex.rt hq rfl rfl ⟨s2, rfl, rfl, k⟩
/-- RowAuditor$Rounder.addWays(III)V -/
def w_105 (p1 : Int32) (p2 : Int32) (p3 : Int32) (s : ST) (K : ST → Prop) : Prop := w_104 p1 p2 s (fun r2 s1 => w_181 p1 (0 : Int32) (8 : Int32) s1 (fun r4 s3 => ((r4 = 0 → K s3) ∧ (¬ (r4 = 0) → w_181 r2 (0 : Int32) ((Int32.ofNat 2304) - (1 : Int32)) s3 (fun r6 s5 => ((¬ r6 = 0 → (pin r2 2304 = true ∧ ((¬ ((s5.2.1 47) (r2).toNatClampNeg) = 0 → (pin r2 2304 = true ∧ (pin r2 2304 = true ∧ K (sA s5 47 (upd (s5.2.1 47) (r2).toNatClampNeg (if (((s5.2.1 47) (r2).toNatClampNeg) + p3) < (100000 : Int32) then (((s5.2.1 47) (r2).toNatClampNeg) + p3) else (100000 : Int32))))))) ∧ (¬ (¬ ((s5.2.1 47) (r2).toNatClampNeg) = 0) → (pin p1 9 = true ∧ (((64 : Int32) ≤ ((s5.2.1 49) (p1).toNatClampNeg) → (pin r2 2304 = true ∧ (pin r2 2304 = true ∧ K (sA s5 47 (upd (s5.2.1 47) (r2).toNatClampNeg (if (((s5.2.1 47) (r2).toNatClampNeg) + p3) < (100000 : Int32) then (((s5.2.1 47) (r2).toNatClampNeg) + p3) else (100000 : Int32))))))) ∧ (¬ ((64 : Int32) ≤ ((s5.2.1 49) (p1).toNatClampNeg)) → (pin p1 9 = true ∧ (pin ((p1 * (64 : Int32)) + ((s5.2.1 49) (p1).toNatClampNeg)) 576 = true ∧ (pin p1 9 = true ∧ (pin p1 9 = true ∧ (pin r2 2304 = true ∧ (pin r2 2304 = true ∧ K (sA (sA (sA s5 48 (upd (s5.2.1 48) (((p1 * (64 : Int32)) + ((s5.2.1 49) (p1).toNatClampNeg))).toNatClampNeg p2)) 49 (upd (s5.2.1 49) (p1).toNatClampNeg (((s5.2.1 49) (p1).toNatClampNeg) + (1 : Int32)))) 47 (upd (s5.2.1 47) (r2).toNatClampNeg (if (((s5.2.1 47) (r2).toNatClampNeg) + p3) < (100000 : Int32) then (((s5.2.1 47) (r2).toNatClampNeg) + p3) else (100000 : Int32))))))))))))))))) ∧ (¬ (¬ r6 = 0) → K s5)))))))
theorem q_105 {d : Nat} {K : ST → Prop} (p1 : Int32) (p2 : Int32) (p3 : Int32) (s : ST) (k : w_105 p1 p2 p3 s K) : Rn sc (d + 1) 105 [.ref 46, .int p1, .int p2, .int p3] (hpS s) (kV K) := by
  have hq : prog[105]? = some pm105 := rfl
  refine Rn.of (L := [.ref 46, .int p1, .int p2, .int p3, pu]) hq rfl rfl ?_
  unfold w_105 at k
  refine Ex.seg hq 2 (j := 2) (L' := [.ref 46, .int p1, .int p2, .int p3, pu]) (S' := [.int p2, .int p1]) (h' := hpS s) rfl ?_
  refine Ex.cl hq rfl rfl ?_
  refine Rn.mono (q_104 (d := d + 0) p1 p2 s k) ?_
  rintro _ _ ⟨r2, s1, rfl, rfl, k⟩
  show Ex sc (d + 1) 105 3 [.ref 46, .int p1, .int p2, .int p3, pu] [.int r2] (hpS s1) _
  refine Ex.seg hq 4 (j := 7) (L' := [.ref 46, .int p1, .int p2, .int p3, .int r2]) (S' := [.int (8 : Int32), .int (0 : Int32), .int p1]) (h' := hpS s1) rfl ?_
  refine Ex.cl hq rfl rfl ?_
  refine Rn.mono (q_181 (d := d + 0) p1 (0 : Int32) (8 : Int32) s1 k) ?_
  rintro _ _ ⟨r4, s3, rfl, hzr4, rfl, k⟩
  show Ex sc (d + 1) 105 8 [.ref 46, .int p1, .int p2, .int p3, .int r2] [.int r4] (hpS s3) _
  refine Ex.i1 hq rfl (fun c => ?_) (fun c => ?_)
  · have k := k.1 c
    exact Ex.rt hq rfl rfl ⟨s3, rfl, rfl, k⟩
  · have k := k.2 c
    refine Ex.seg hq 7 (j := 16) (L' := [.ref 46, .int p1, .int p2, .int p3, .int r2]) (S' := [.int ((Int32.ofNat 2304) - (1 : Int32)), .int (0 : Int32), .int r2]) (h' := hpS s3) rfl ?_
    refine Ex.cl hq rfl rfl ?_
    refine Rn.mono (q_181 (d := d + 0) r2 (0 : Int32) ((Int32.ofNat 2304) - (1 : Int32)) s3 k) ?_
    rintro _ _ ⟨r6, s5, rfl, hzr6, rfl, k⟩
    show Ex sc (d + 1) 105 17 [.ref 46, .int p1, .int p2, .int p3, .int r2] [.int r6] (hpS s5) _
    refine Ex.i1 hq rfl (fun c => ?_) (fun c => ?_)
    · have k := k.1 c
      refine Ex.seg hq 3 (j := 22) (L' := [.ref 46, .int p1, .int p2, .int p3, .int r2]) (S' := [.int r2, .ref 47]) (h' := hpS s5) rfl ?_
      obtain ⟨hin, k⟩ := k
      refine Ex.ial hq rfl rfl hin ?_
      refine Ex.i1 hq rfl (fun c => ?_) (fun c => ?_)
      · have k := k.1 c
        refine Ex.seg hq 7 (j := 57) (L' := [.ref 46, .int p1, .int p2, .int p3, .int r2]) (S' := [.int r2, .ref 47, .int (100000 : Int32), .int r2, .ref 47]) (h' := hpS s5) rfl ?_
        obtain ⟨hin, k⟩ := k
        refine Ex.ial hq rfl rfl hin ?_
        refine Ex.seg hq 3 (j := 61) (L' := [.ref 46, .int p1, .int p2, .int p3, .int r2]) (S' := [.int (if (((s5.2.1 47) (r2).toNatClampNeg) + p3) < (100000 : Int32) then (((s5.2.1 47) (r2).toNatClampNeg) + p3) else (100000 : Int32)), .int r2, .ref 47]) (h' := hpS s5) rfl ?_
        obtain ⟨hin, k⟩ := k
        refine Ex.ias hq rfl rfl hin (h' := hpS (sA s5 47 (upd (s5.2.1 47) (r2).toNatClampNeg (if (((s5.2.1 47) (r2).toNatClampNeg) + p3) < (100000 : Int32) then (((s5.2.1 47) (r2).toNatClampNeg) + p3) else (100000 : Int32))))) (hset_47 _ _) ?_
        exact Ex.rt hq rfl rfl ⟨(sA s5 47 (upd (s5.2.1 47) (r2).toNatClampNeg (if (((s5.2.1 47) (r2).toNatClampNeg) + p3) < (100000 : Int32) then (((s5.2.1 47) (r2).toNatClampNeg) + p3) else (100000 : Int32)))), rfl, rfl, k⟩
      · have k := k.2 c
        refine Ex.seg hq 3 (j := 27) (L' := [.ref 46, .int p1, .int p2, .int p3, .int r2]) (S' := [.int p1, .ref 49]) (h' := hpS s5) rfl ?_
        obtain ⟨hin, k⟩ := k
        refine Ex.ial hq rfl rfl hin ?_
        refine Ex.seg hq 1 (j := 29) (L' := [.ref 46, .int p1, .int p2, .int p3, .int r2]) (S' := [.int (64 : Int32), .int ((s5.2.1 49) (p1).toNatClampNeg)]) (h' := hpS s5) rfl ?_
        refine Ex.i2 hq rfl (fun c => ?_) (fun c => ?_)
        · have k := k.1 c
          refine Ex.seg hq 7 (j := 57) (L' := [.ref 46, .int p1, .int p2, .int p3, .int r2]) (S' := [.int r2, .ref 47, .int (100000 : Int32), .int r2, .ref 47]) (h' := hpS s5) rfl ?_
          obtain ⟨hin, k⟩ := k
          refine Ex.ial hq rfl rfl hin ?_
          refine Ex.seg hq 3 (j := 61) (L' := [.ref 46, .int p1, .int p2, .int p3, .int r2]) (S' := [.int (if (((s5.2.1 47) (r2).toNatClampNeg) + p3) < (100000 : Int32) then (((s5.2.1 47) (r2).toNatClampNeg) + p3) else (100000 : Int32)), .int r2, .ref 47]) (h' := hpS s5) rfl ?_
          obtain ⟨hin, k⟩ := k
          refine Ex.ias hq rfl rfl hin (h' := hpS (sA s5 47 (upd (s5.2.1 47) (r2).toNatClampNeg (if (((s5.2.1 47) (r2).toNatClampNeg) + p3) < (100000 : Int32) then (((s5.2.1 47) (r2).toNatClampNeg) + p3) else (100000 : Int32))))) (hset_47 _ _) ?_
          exact Ex.rt hq rfl rfl ⟨(sA s5 47 (upd (s5.2.1 47) (r2).toNatClampNeg (if (((s5.2.1 47) (r2).toNatClampNeg) + p3) < (100000 : Int32) then (((s5.2.1 47) (r2).toNatClampNeg) + p3) else (100000 : Int32)))), rfl, rfl, k⟩
        · have k := k.2 c
          refine Ex.seg hq 8 (j := 38) (L' := [.ref 46, .int p1, .int p2, .int p3, .int r2]) (S' := [.int p1, .ref 49, .int (p1 * (64 : Int32)), .ref 48]) (h' := hpS s5) rfl ?_
          obtain ⟨hin, k⟩ := k
          refine Ex.ial hq rfl rfl hin ?_
          refine Ex.seg hq 2 (j := 41) (L' := [.ref 46, .int p1, .int p2, .int p3, .int r2]) (S' := [.int p2, .int ((p1 * (64 : Int32)) + ((s5.2.1 49) (p1).toNatClampNeg)), .ref 48]) (h' := hpS s5) rfl ?_
          obtain ⟨hin, k⟩ := k
          refine Ex.ias hq rfl rfl hin (h' := hpS (sA s5 48 (upd (s5.2.1 48) (((p1 * (64 : Int32)) + ((s5.2.1 49) (p1).toNatClampNeg))).toNatClampNeg p2))) (hset_48 _ _) ?_
          refine Ex.seg hq 4 (j := 46) (L' := [.ref 46, .int p1, .int p2, .int p3, .int r2]) (S' := [.int p1, .ref 49, .int p1, .ref 49]) (h' := hpS (sA s5 48 (upd (s5.2.1 48) (((p1 * (64 : Int32)) + ((s5.2.1 49) (p1).toNatClampNeg))).toNatClampNeg p2))) rfl ?_
          obtain ⟨hin, k⟩ := k
          refine Ex.ial hq rfl rfl hin ?_
          refine Ex.seg hq 2 (j := 49) (L' := [.ref 46, .int p1, .int p2, .int p3, .int r2]) (S' := [.int (((s5.2.1 49) (p1).toNatClampNeg) + (1 : Int32)), .int p1, .ref 49]) (h' := hpS (sA s5 48 (upd (s5.2.1 48) (((p1 * (64 : Int32)) + ((s5.2.1 49) (p1).toNatClampNeg))).toNatClampNeg p2))) rfl ?_
          obtain ⟨hin, k⟩ := k
          refine Ex.ias hq rfl rfl hin (h' := hpS (sA (sA s5 48 (upd (s5.2.1 48) (((p1 * (64 : Int32)) + ((s5.2.1 49) (p1).toNatClampNeg))).toNatClampNeg p2)) 49 (upd (s5.2.1 49) (p1).toNatClampNeg (((s5.2.1 49) (p1).toNatClampNeg) + (1 : Int32))))) (hset_49 _ _) ?_
          refine Ex.seg hq 7 (j := 57) (L' := [.ref 46, .int p1, .int p2, .int p3, .int r2]) (S' := [.int r2, .ref 47, .int (100000 : Int32), .int r2, .ref 47]) (h' := hpS (sA (sA s5 48 (upd (s5.2.1 48) (((p1 * (64 : Int32)) + ((s5.2.1 49) (p1).toNatClampNeg))).toNatClampNeg p2)) 49 (upd (s5.2.1 49) (p1).toNatClampNeg (((s5.2.1 49) (p1).toNatClampNeg) + (1 : Int32))))) rfl ?_
          obtain ⟨hin, k⟩ := k
          refine Ex.ial hq rfl rfl hin ?_
          refine Ex.seg hq 3 (j := 61) (L' := [.ref 46, .int p1, .int p2, .int p3, .int r2]) (S' := [.int (if (((s5.2.1 47) (r2).toNatClampNeg) + p3) < (100000 : Int32) then (((s5.2.1 47) (r2).toNatClampNeg) + p3) else (100000 : Int32)), .int r2, .ref 47]) (h' := hpS (sA (sA s5 48 (upd (s5.2.1 48) (((p1 * (64 : Int32)) + ((s5.2.1 49) (p1).toNatClampNeg))).toNatClampNeg p2)) 49 (upd (s5.2.1 49) (p1).toNatClampNeg (((s5.2.1 49) (p1).toNatClampNeg) + (1 : Int32))))) rfl ?_
          obtain ⟨hin, k⟩ := k
          refine Ex.ias hq rfl rfl hin (h' := hpS (sA (sA (sA s5 48 (upd (s5.2.1 48) (((p1 * (64 : Int32)) + ((s5.2.1 49) (p1).toNatClampNeg))).toNatClampNeg p2)) 49 (upd (s5.2.1 49) (p1).toNatClampNeg (((s5.2.1 49) (p1).toNatClampNeg) + (1 : Int32)))) 47 (upd (s5.2.1 47) (r2).toNatClampNeg (if (((s5.2.1 47) (r2).toNatClampNeg) + p3) < (100000 : Int32) then (((s5.2.1 47) (r2).toNatClampNeg) + p3) else (100000 : Int32))))) (hset_47 _ _) ?_
          exact Ex.rt hq rfl rfl ⟨(sA (sA (sA s5 48 (upd (s5.2.1 48) (((p1 * (64 : Int32)) + ((s5.2.1 49) (p1).toNatClampNeg))).toNatClampNeg p2)) 49 (upd (s5.2.1 49) (p1).toNatClampNeg (((s5.2.1 49) (p1).toNatClampNeg) + (1 : Int32)))) 47 (upd (s5.2.1 47) (r2).toNatClampNeg (if (((s5.2.1 47) (r2).toNatClampNeg) + p3) < (100000 : Int32) then (((s5.2.1 47) (r2).toNatClampNeg) + p3) else (100000 : Int32)))), rfl, rfl, k⟩
    · have k := k.2 c
      exact Ex.rt hq rfl rfl ⟨s5, rfl, rfl, k⟩
/-- java/lang/Integer.bitCount(I)I -/
def w_283 (p0 : Int32) (s : ST) (K : Int32 → ST → Prop) : Prop := K ((((((((p0 - ((((p0).toUInt32 >>> (((1 : Int32)).toUInt32 &&& Int32.toUInt32 31)).toInt32) &&& (1431655765 : Int32))) &&& (858993459 : Int32)) + (((((p0 - ((((p0).toUInt32 >>> (((1 : Int32)).toUInt32 &&& Int32.toUInt32 31)).toInt32) &&& (1431655765 : Int32)))).toUInt32 >>> (((2 : Int32)).toUInt32 &&& Int32.toUInt32 31)).toInt32) &&& (858993459 : Int32))) + ((((((p0 - ((((p0).toUInt32 >>> (((1 : Int32)).toUInt32 &&& Int32.toUInt32 31)).toInt32) &&& (1431655765 : Int32))) &&& (858993459 : Int32)) + (((((p0 - ((((p0).toUInt32 >>> (((1 : Int32)).toUInt32 &&& Int32.toUInt32 31)).toInt32) &&& (1431655765 : Int32)))).toUInt32 >>> (((2 : Int32)).toUInt32 &&& Int32.toUInt32 31)).toInt32) &&& (858993459 : Int32)))).toUInt32 >>> (((4 : Int32)).toUInt32 &&& Int32.toUInt32 31)).toInt32)) &&& (252645135 : Int32)) + ((((((((p0 - ((((p0).toUInt32 >>> (((1 : Int32)).toUInt32 &&& Int32.toUInt32 31)).toInt32) &&& (1431655765 : Int32))) &&& (858993459 : Int32)) + (((((p0 - ((((p0).toUInt32 >>> (((1 : Int32)).toUInt32 &&& Int32.toUInt32 31)).toInt32) &&& (1431655765 : Int32)))).toUInt32 >>> (((2 : Int32)).toUInt32 &&& Int32.toUInt32 31)).toInt32) &&& (858993459 : Int32))) + ((((((p0 - ((((p0).toUInt32 >>> (((1 : Int32)).toUInt32 &&& Int32.toUInt32 31)).toInt32) &&& (1431655765 : Int32))) &&& (858993459 : Int32)) + (((((p0 - ((((p0).toUInt32 >>> (((1 : Int32)).toUInt32 &&& Int32.toUInt32 31)).toInt32) &&& (1431655765 : Int32)))).toUInt32 >>> (((2 : Int32)).toUInt32 &&& Int32.toUInt32 31)).toInt32) &&& (858993459 : Int32)))).toUInt32 >>> (((4 : Int32)).toUInt32 &&& Int32.toUInt32 31)).toInt32)) &&& (252645135 : Int32))).toUInt32 >>> (((8 : Int32)).toUInt32 &&& Int32.toUInt32 31)).toInt32)) + (((((((((p0 - ((((p0).toUInt32 >>> (((1 : Int32)).toUInt32 &&& Int32.toUInt32 31)).toInt32) &&& (1431655765 : Int32))) &&& (858993459 : Int32)) + (((((p0 - ((((p0).toUInt32 >>> (((1 : Int32)).toUInt32 &&& Int32.toUInt32 31)).toInt32) &&& (1431655765 : Int32)))).toUInt32 >>> (((2 : Int32)).toUInt32 &&& Int32.toUInt32 31)).toInt32) &&& (858993459 : Int32))) + ((((((p0 - ((((p0).toUInt32 >>> (((1 : Int32)).toUInt32 &&& Int32.toUInt32 31)).toInt32) &&& (1431655765 : Int32))) &&& (858993459 : Int32)) + (((((p0 - ((((p0).toUInt32 >>> (((1 : Int32)).toUInt32 &&& Int32.toUInt32 31)).toInt32) &&& (1431655765 : Int32)))).toUInt32 >>> (((2 : Int32)).toUInt32 &&& Int32.toUInt32 31)).toInt32) &&& (858993459 : Int32)))).toUInt32 >>> (((4 : Int32)).toUInt32 &&& Int32.toUInt32 31)).toInt32)) &&& (252645135 : Int32)) + ((((((((p0 - ((((p0).toUInt32 >>> (((1 : Int32)).toUInt32 &&& Int32.toUInt32 31)).toInt32) &&& (1431655765 : Int32))) &&& (858993459 : Int32)) + (((((p0 - ((((p0).toUInt32 >>> (((1 : Int32)).toUInt32 &&& Int32.toUInt32 31)).toInt32) &&& (1431655765 : Int32)))).toUInt32 >>> (((2 : Int32)).toUInt32 &&& Int32.toUInt32 31)).toInt32) &&& (858993459 : Int32))) + ((((((p0 - ((((p0).toUInt32 >>> (((1 : Int32)).toUInt32 &&& Int32.toUInt32 31)).toInt32) &&& (1431655765 : Int32))) &&& (858993459 : Int32)) + (((((p0 - ((((p0).toUInt32 >>> (((1 : Int32)).toUInt32 &&& Int32.toUInt32 31)).toInt32) &&& (1431655765 : Int32)))).toUInt32 >>> (((2 : Int32)).toUInt32 &&& Int32.toUInt32 31)).toInt32) &&& (858993459 : Int32)))).toUInt32 >>> (((4 : Int32)).toUInt32 &&& Int32.toUInt32 31)).toInt32)) &&& (252645135 : Int32))).toUInt32 >>> (((8 : Int32)).toUInt32 &&& Int32.toUInt32 31)).toInt32))).toUInt32 >>> (((16 : Int32)).toUInt32 &&& Int32.toUInt32 31)).toInt32)) &&& (63 : Int32)) s
theorem q_283 {d : Nat} {K : Int32 → ST → Prop} (p0 : Int32) (s : ST) (k : w_283 p0 s K) : Rn sc (d + 0) 283 [.int p0] (hpS s) (kI K) := by
  have hq : prog[283]? = some pm283 := rfl
  refine Rn.of (L := [.int p0]) hq rfl rfl ?_
  unfold w_283 at k
  refine Ex.seg hq 41 (j := 41) (L' := [.int (((((((p0 - ((((p0).toUInt32 >>> (((1 : Int32)).toUInt32 &&& Int32.toUInt32 31)).toInt32) &&& (1431655765 : Int32))) &&& (858993459 : Int32)) + (((((p0 - ((((p0).toUInt32 >>> (((1 : Int32)).toUInt32 &&& Int32.toUInt32 31)).toInt32) &&& (1431655765 : Int32)))).toUInt32 >>> (((2 : Int32)).toUInt32 &&& Int32.toUInt32 31)).toInt32) &&& (858993459 : Int32))) + ((((((p0 - ((((p0).toUInt32 >>> (((1 : Int32)).toUInt32 &&& Int32.toUInt32 31)).toInt32) &&& (1431655765 : Int32))) &&& (858993459 : Int32)) + (((((p0 - ((((p0).toUInt32 >>> (((1 : Int32)).toUInt32 &&& Int32.toUInt32 31)).toInt32) &&& (1431655765 : Int32)))).toUInt32 >>> (((2 : Int32)).toUInt32 &&& Int32.toUInt32 31)).toInt32) &&& (858993459 : Int32)))).toUInt32 >>> (((4 : Int32)).toUInt32 &&& Int32.toUInt32 31)).toInt32)) &&& (252645135 : Int32)) + ((((((((p0 - ((((p0).toUInt32 >>> (((1 : Int32)).toUInt32 &&& Int32.toUInt32 31)).toInt32) &&& (1431655765 : Int32))) &&& (858993459 : Int32)) + (((((p0 - ((((p0).toUInt32 >>> (((1 : Int32)).toUInt32 &&& Int32.toUInt32 31)).toInt32) &&& (1431655765 : Int32)))).toUInt32 >>> (((2 : Int32)).toUInt32 &&& Int32.toUInt32 31)).toInt32) &&& (858993459 : Int32))) + ((((((p0 - ((((p0).toUInt32 >>> (((1 : Int32)).toUInt32 &&& Int32.toUInt32 31)).toInt32) &&& (1431655765 : Int32))) &&& (858993459 : Int32)) + (((((p0 - ((((p0).toUInt32 >>> (((1 : Int32)).toUInt32 &&& Int32.toUInt32 31)).toInt32) &&& (1431655765 : Int32)))).toUInt32 >>> (((2 : Int32)).toUInt32 &&& Int32.toUInt32 31)).toInt32) &&& (858993459 : Int32)))).toUInt32 >>> (((4 : Int32)).toUInt32 &&& Int32.toUInt32 31)).toInt32)) &&& (252645135 : Int32))).toUInt32 >>> (((8 : Int32)).toUInt32 &&& Int32.toUInt32 31)).toInt32)) + (((((((((p0 - ((((p0).toUInt32 >>> (((1 : Int32)).toUInt32 &&& Int32.toUInt32 31)).toInt32) &&& (1431655765 : Int32))) &&& (858993459 : Int32)) + (((((p0 - ((((p0).toUInt32 >>> (((1 : Int32)).toUInt32 &&& Int32.toUInt32 31)).toInt32) &&& (1431655765 : Int32)))).toUInt32 >>> (((2 : Int32)).toUInt32 &&& Int32.toUInt32 31)).toInt32) &&& (858993459 : Int32))) + ((((((p0 - ((((p0).toUInt32 >>> (((1 : Int32)).toUInt32 &&& Int32.toUInt32 31)).toInt32) &&& (1431655765 : Int32))) &&& (858993459 : Int32)) + (((((p0 - ((((p0).toUInt32 >>> (((1 : Int32)).toUInt32 &&& Int32.toUInt32 31)).toInt32) &&& (1431655765 : Int32)))).toUInt32 >>> (((2 : Int32)).toUInt32 &&& Int32.toUInt32 31)).toInt32) &&& (858993459 : Int32)))).toUInt32 >>> (((4 : Int32)).toUInt32 &&& Int32.toUInt32 31)).toInt32)) &&& (252645135 : Int32)) + ((((((((p0 - ((((p0).toUInt32 >>> (((1 : Int32)).toUInt32 &&& Int32.toUInt32 31)).toInt32) &&& (1431655765 : Int32))) &&& (858993459 : Int32)) + (((((p0 - ((((p0).toUInt32 >>> (((1 : Int32)).toUInt32 &&& Int32.toUInt32 31)).toInt32) &&& (1431655765 : Int32)))).toUInt32 >>> (((2 : Int32)).toUInt32 &&& Int32.toUInt32 31)).toInt32) &&& (858993459 : Int32))) + ((((((p0 - ((((p0).toUInt32 >>> (((1 : Int32)).toUInt32 &&& Int32.toUInt32 31)).toInt32) &&& (1431655765 : Int32))) &&& (858993459 : Int32)) + (((((p0 - ((((p0).toUInt32 >>> (((1 : Int32)).toUInt32 &&& Int32.toUInt32 31)).toInt32) &&& (1431655765 : Int32)))).toUInt32 >>> (((2 : Int32)).toUInt32 &&& Int32.toUInt32 31)).toInt32) &&& (858993459 : Int32)))).toUInt32 >>> (((4 : Int32)).toUInt32 &&& Int32.toUInt32 31)).toInt32)) &&& (252645135 : Int32))).toUInt32 >>> (((8 : Int32)).toUInt32 &&& Int32.toUInt32 31)).toInt32))).toUInt32 >>> (((16 : Int32)).toUInt32 &&& Int32.toUInt32 31)).toInt32))]) (S' := [.int ((((((((p0 - ((((p0).toUInt32 >>> (((1 : Int32)).toUInt32 &&& Int32.toUInt32 31)).toInt32) &&& (1431655765 : Int32))) &&& (858993459 : Int32)) + (((((p0 - ((((p0).toUInt32 >>> (((1 : Int32)).toUInt32 &&& Int32.toUInt32 31)).toInt32) &&& (1431655765 : Int32)))).toUInt32 >>> (((2 : Int32)).toUInt32 &&& Int32.toUInt32 31)).toInt32) &&& (858993459 : Int32))) + ((((((p0 - ((((p0).toUInt32 >>> (((1 : Int32)).toUInt32 &&& Int32.toUInt32 31)).toInt32) &&& (1431655765 : Int32))) &&& (858993459 : Int32)) + (((((p0 - ((((p0).toUInt32 >>> (((1 : Int32)).toUInt32 &&& Int32.toUInt32 31)).toInt32) &&& (1431655765 : Int32)))).toUInt32 >>> (((2 : Int32)).toUInt32 &&& Int32.toUInt32 31)).toInt32) &&& (858993459 : Int32)))).toUInt32 >>> (((4 : Int32)).toUInt32 &&& Int32.toUInt32 31)).toInt32)) &&& (252645135 : Int32)) + ((((((((p0 - ((((p0).toUInt32 >>> (((1 : Int32)).toUInt32 &&& Int32.toUInt32 31)).toInt32) &&& (1431655765 : Int32))) &&& (858993459 : Int32)) + (((((p0 - ((((p0).toUInt32 >>> (((1 : Int32)).toUInt32 &&& Int32.toUInt32 31)).toInt32) &&& (1431655765 : Int32)))).toUInt32 >>> (((2 : Int32)).toUInt32 &&& Int32.toUInt32 31)).toInt32) &&& (858993459 : Int32))) + ((((((p0 - ((((p0).toUInt32 >>> (((1 : Int32)).toUInt32 &&& Int32.toUInt32 31)).toInt32) &&& (1431655765 : Int32))) &&& (858993459 : Int32)) + (((((p0 - ((((p0).toUInt32 >>> (((1 : Int32)).toUInt32 &&& Int32.toUInt32 31)).toInt32) &&& (1431655765 : Int32)))).toUInt32 >>> (((2 : Int32)).toUInt32 &&& Int32.toUInt32 31)).toInt32) &&& (858993459 : Int32)))).toUInt32 >>> (((4 : Int32)).toUInt32 &&& Int32.toUInt32 31)).toInt32)) &&& (252645135 : Int32))).toUInt32 >>> (((8 : Int32)).toUInt32 &&& Int32.toUInt32 31)).toInt32)) + (((((((((p0 - ((((p0).toUInt32 >>> (((1 : Int32)).toUInt32 &&& Int32.toUInt32 31)).toInt32) &&& (1431655765 : Int32))) &&& (858993459 : Int32)) + (((((p0 - ((((p0).toUInt32 >>> (((1 : Int32)).toUInt32 &&& Int32.toUInt32 31)).toInt32) &&& (1431655765 : Int32)))).toUInt32 >>> (((2 : Int32)).toUInt32 &&& Int32.toUInt32 31)).toInt32) &&& (858993459 : Int32))) + ((((((p0 - ((((p0).toUInt32 >>> (((1 : Int32)).toUInt32 &&& Int32.toUInt32 31)).toInt32) &&& (1431655765 : Int32))) &&& (858993459 : Int32)) + (((((p0 - ((((p0).toUInt32 >>> (((1 : Int32)).toUInt32 &&& Int32.toUInt32 31)).toInt32) &&& (1431655765 : Int32)))).toUInt32 >>> (((2 : Int32)).toUInt32 &&& Int32.toUInt32 31)).toInt32) &&& (858993459 : Int32)))).toUInt32 >>> (((4 : Int32)).toUInt32 &&& Int32.toUInt32 31)).toInt32)) &&& (252645135 : Int32)) + ((((((((p0 - ((((p0).toUInt32 >>> (((1 : Int32)).toUInt32 &&& Int32.toUInt32 31)).toInt32) &&& (1431655765 : Int32))) &&& (858993459 : Int32)) + (((((p0 - ((((p0).toUInt32 >>> (((1 : Int32)).toUInt32 &&& Int32.toUInt32 31)).toInt32) &&& (1431655765 : Int32)))).toUInt32 >>> (((2 : Int32)).toUInt32 &&& Int32.toUInt32 31)).toInt32) &&& (858993459 : Int32))) + ((((((p0 - ((((p0).toUInt32 >>> (((1 : Int32)).toUInt32 &&& Int32.toUInt32 31)).toInt32) &&& (1431655765 : Int32))) &&& (858993459 : Int32)) + (((((p0 - ((((p0).toUInt32 >>> (((1 : Int32)).toUInt32 &&& Int32.toUInt32 31)).toInt32) &&& (1431655765 : Int32)))).toUInt32 >>> (((2 : Int32)).toUInt32 &&& Int32.toUInt32 31)).toInt32) &&& (858993459 : Int32)))).toUInt32 >>> (((4 : Int32)).toUInt32 &&& Int32.toUInt32 31)).toInt32)) &&& (252645135 : Int32))).toUInt32 >>> (((8 : Int32)).toUInt32 &&& Int32.toUInt32 31)).toInt32))).toUInt32 >>> (((16 : Int32)).toUInt32 &&& Int32.toUInt32 31)).toInt32)) &&& (63 : Int32))]) (h' := hpS s) rfl ?_
  exact Ex.rt hq rfl rfl ⟨((((((((p0 - ((((p0).toUInt32 >>> (((1 : Int32)).toUInt32 &&& Int32.toUInt32 31)).toInt32) &&& (1431655765 : Int32))) &&& (858993459 : Int32)) + (((((p0 - ((((p0).toUInt32 >>> (((1 : Int32)).toUInt32 &&& Int32.toUInt32 31)).toInt32) &&& (1431655765 : Int32)))).toUInt32 >>> (((2 : Int32)).toUInt32 &&& Int32.toUInt32 31)).toInt32) &&& (858993459 : Int32))) + ((((((p0 - ((((p0).toUInt32 >>> (((1 : Int32)).toUInt32 &&& Int32.toUInt32 31)).toInt32) &&& (1431655765 : Int32))) &&& (858993459 : Int32)) + (((((p0 - ((((p0).toUInt32 >>> (((1 : Int32)).toUInt32 &&& Int32.toUInt32 31)).toInt32) &&& (1431655765 : Int32)))).toUInt32 >>> (((2 : Int32)).toUInt32 &&& Int32.toUInt32 31)).toInt32) &&& (858993459 : Int32)))).toUInt32 >>> (((4 : Int32)).toUInt32 &&& Int32.toUInt32 31)).toInt32)) &&& (252645135 : Int32)) + ((((((((p0 - ((((p0).toUInt32 >>> (((1 : Int32)).toUInt32 &&& Int32.toUInt32 31)).toInt32) &&& (1431655765 : Int32))) &&& (858993459 : Int32)) + (((((p0 - ((((p0).toUInt32 >>> (((1 : Int32)).toUInt32 &&& Int32.toUInt32 31)).toInt32) &&& (1431655765 : Int32)))).toUInt32 >>> (((2 : Int32)).toUInt32 &&& Int32.toUInt32 31)).toInt32) &&& (858993459 : Int32))) + ((((((p0 - ((((p0).toUInt32 >>> (((1 : Int32)).toUInt32 &&& Int32.toUInt32 31)).toInt32) &&& (1431655765 : Int32))) &&& (858993459 : Int32)) + (((((p0 - ((((p0).toUInt32 >>> (((1 : Int32)).toUInt32 &&& Int32.toUInt32 31)).toInt32) &&& (1431655765 : Int32)))).toUInt32 >>> (((2 : Int32)).toUInt32 &&& Int32.toUInt32 31)).toInt32) &&& (858993459 : Int32)))).toUInt32 >>> (((4 : Int32)).toUInt32 &&& Int32.toUInt32 31)).toInt32)) &&& (252645135 : Int32))).toUInt32 >>> (((8 : Int32)).toUInt32 &&& Int32.toUInt32 31)).toInt32)) + (((((((((p0 - ((((p0).toUInt32 >>> (((1 : Int32)).toUInt32 &&& Int32.toUInt32 31)).toInt32) &&& (1431655765 : Int32))) &&& (858993459 : Int32)) + (((((p0 - ((((p0).toUInt32 >>> (((1 : Int32)).toUInt32 &&& Int32.toUInt32 31)).toInt32) &&& (1431655765 : Int32)))).toUInt32 >>> (((2 : Int32)).toUInt32 &&& Int32.toUInt32 31)).toInt32) &&& (858993459 : Int32))) + ((((((p0 - ((((p0).toUInt32 >>> (((1 : Int32)).toUInt32 &&& Int32.toUInt32 31)).toInt32) &&& (1431655765 : Int32))) &&& (858993459 : Int32)) + (((((p0 - ((((p0).toUInt32 >>> (((1 : Int32)).toUInt32 &&& Int32.toUInt32 31)).toInt32) &&& (1431655765 : Int32)))).toUInt32 >>> (((2 : Int32)).toUInt32 &&& Int32.toUInt32 31)).toInt32) &&& (858993459 : Int32)))).toUInt32 >>> (((4 : Int32)).toUInt32 &&& Int32.toUInt32 31)).toInt32)) &&& (252645135 : Int32)) + ((((((((p0 - ((((p0).toUInt32 >>> (((1 : Int32)).toUInt32 &&& Int32.toUInt32 31)).toInt32) &&& (1431655765 : Int32))) &&& (858993459 : Int32)) + (((((p0 - ((((p0).toUInt32 >>> (((1 : Int32)).toUInt32 &&& Int32.toUInt32 31)).toInt32) &&& (1431655765 : Int32)))).toUInt32 >>> (((2 : Int32)).toUInt32 &&& Int32.toUInt32 31)).toInt32) &&& (858993459 : Int32))) + ((((((p0 - ((((p0).toUInt32 >>> (((1 : Int32)).toUInt32 &&& Int32.toUInt32 31)).toInt32) &&& (1431655765 : Int32))) &&& (858993459 : Int32)) + (((((p0 - ((((p0).toUInt32 >>> (((1 : Int32)).toUInt32 &&& Int32.toUInt32 31)).toInt32) &&& (1431655765 : Int32)))).toUInt32 >>> (((2 : Int32)).toUInt32 &&& Int32.toUInt32 31)).toInt32) &&& (858993459 : Int32)))).toUInt32 >>> (((4 : Int32)).toUInt32 &&& Int32.toUInt32 31)).toInt32)) &&& (252645135 : Int32))).toUInt32 >>> (((8 : Int32)).toUInt32 &&& Int32.toUInt32 31)).toInt32))).toUInt32 >>> (((16 : Int32)).toUInt32 &&& Int32.toUInt32 31)).toInt32)) &&& (63 : Int32)), s, rfl, rfl, k⟩
/-- RowAuditor$Rounder.waysBy(II)I -/
def w_103 (p1 : Int32) (p2 : Int32) (s : ST) (K : Int32 → ST → Prop) : Prop := w_104 p1 p2 s (fun r2 s1 => w_181 r2 (0 : Int32) ((Int32.ofNat 2304) - (1 : Int32)) s1 (fun r4 s3 => ((r4 = 0 → K (0 : Int32) s3) ∧ (¬ (r4 = 0) → (pin r2 2304 = true ∧ K ((s3.2.1 47) (r2).toNatClampNeg) s3)))))
theorem q_103 {d : Nat} {K : Int32 → ST → Prop} (p1 : Int32) (p2 : Int32) (s : ST) (k : w_103 p1 p2 s K) : Rn sc (d + 1) 103 [.ref 46, .int p1, .int p2] (hpS s) (kI K) := by
  have hq : prog[103]? = some pm103 := rfl
  refine Rn.of (L := [.ref 46, .int p1, .int p2, pu]) hq rfl rfl ?_
  unfold w_103 at k
  refine Ex.seg hq 2 (j := 2) (L' := [.ref 46, .int p1, .int p2, pu]) (S' := [.int p2, .int p1]) (h' := hpS s) rfl ?_
  refine Ex.cl hq rfl rfl ?_
  refine Rn.mono (q_104 (d := d + 0) p1 p2 s k) ?_
  rintro _ _ ⟨r2, s1, rfl, rfl, k⟩
  show Ex sc (d + 1) 103 3 [.ref 46, .int p1, .int p2, pu] [.int r2] (hpS s1) _
  refine Ex.seg hq 8 (j := 11) (L' := [.ref 46, .int p1, .int p2, .int r2]) (S' := [.int ((Int32.ofNat 2304) - (1 : Int32)), .int (0 : Int32), .int r2]) (h' := hpS s1) rfl ?_
  refine Ex.cl hq rfl rfl ?_
  refine Rn.mono (q_181 (d := d + 0) r2 (0 : Int32) ((Int32.ofNat 2304) - (1 : Int32)) s1 k) ?_
  rintro _ _ ⟨r4, s3, rfl, hzr4, rfl, k⟩
  show Ex sc (d + 1) 103 12 [.ref 46, .int p1, .int p2, .int r2] [.int r4] (hpS s3) _
  refine Ex.i1 hq rfl (fun c => ?_) (fun c => ?_)
  · have k := k.1 c
    refine Ex.seg hq 1 (j := 19) (L' := [.ref 46, .int p1, .int p2, .int r2]) (S' := [.int (0 : Int32)]) (h' := hpS s3) rfl ?_
    exact Ex.rt hq rfl rfl ⟨(0 : Int32), s3, rfl, rfl, k⟩
  · have k := k.2 c
    refine Ex.seg hq 3 (j := 16) (L' := [.ref 46, .int p1, .int p2, .int r2]) (S' := [.int r2, .ref 47]) (h' := hpS s3) rfl ?_
    obtain ⟨hin, k⟩ := k
    refine Ex.ial hq rfl rfl hin ?_
    refine Ex.seg hq 1 (j := 19) (L' := [.ref 46, .int p1, .int p2, .int r2]) (S' := [.int ((s3.2.1 47) (r2).toNatClampNeg)]) (h' := hpS s3) rfl ?_
    exact Ex.rt hq rfl rfl ⟨((s3.2.1 47) (r2).toNatClampNeg), s3, rfl, rfl, k⟩
def w_101_L16 : Nat → Int32 → Int32 → Int32 → Int32 → Int32 → ST → (Int32 → ST → Prop) → (Int32 → ST → Prop) → Prop
  | 0, _, _, _, _, _, _, _, _ => False
  | n + 1, x1, x2, x3, x4, x5, s, X59, K => ((x4 ≤ x5 → X59 x3 s) ∧ (¬ (x4 ≤ x5) → w_102 x1 x5 s (fun r4 s3 => ((¬ x2 = (-1 : Int32) → w_184 x2 r4 s3 (fun r6 s5 => ((¬ r6 = 0 → w_101_L16 n x1 x2 x3 x4 (x5 + (1 : Int32)) s5 X59 K) ∧ (¬ (¬ r6 = 0) → w_283 r4 s5 (fun r8 s7 => (((5 : Int32) ≤ r8 → w_101_L16 n x1 x2 x3 x4 (x5 + (1 : Int32)) s7 X59 K) ∧ (¬ ((5 : Int32) ≤ r8) → w_103 x1 r4 s7 (fun r10 s9 => w_105 x2 (r4 ||| ((1 : Int32) <<< (x2 &&& 31))) r10 s9 (fun s11 => w_101_L16 n x1 x2 x3 x4 (x5 + (1 : Int32)) s11 X59 K))))))))) ∧ (¬ (¬ x2 = (-1 : Int32)) → w_103 x1 r4 s3 (fun r14 s13 => w_101_L16 n x1 x2 (if (x3 + r14) < (100000 : Int32) then (x3 + r14) else (100000 : Int32)) x4 (x5 + (1 : Int32)) s13 X59 K))))))
theorem q_101_L16 {d : Nat} {X59 : Int32 → ST → Prop} {K : Int32 → ST → Prop} : ∀ (n : Nat) (x1 : Int32) (x2 : Int32) (x3 : Int32) (x4 : Int32) (x5 : Int32) (s : ST), w_101_L16 n x1 x2 x3 x4 x5 s X59 K → (∀ (y3 : Int32) (s : ST), X59 y3 s → Ex sc (d + 2) 101 59 [pu, pu, pu, .int y3, pu, pu, pu] [] (hpS s) (kI K)) → Ex sc (d + 2) 101 16 [.ref 46, .int x1, .int x2, .int x3, .int x4, .int x5, pu] [] (hpS s) (kI K) := by
  have hq : prog[101]? = some pm101 := rfl
  intro n
  induction n with
  | zero =>
    intro x1 x2 x3 x4 x5 s k
    exact k.elim
  | succ n ih =>
    intro x1 x2 x3 x4 x5 s k hX59
    rw [w_101_L16] at k
    refine Ex.seg hq 2 (j := 18) (L' := [.ref 46, .int x1, .int x2, .int x3, .int x4, .int x5, pu]) (S' := [.int x4, .int x5]) (h' := hpS s) rfl ?_
    refine Ex.i2 hq rfl (fun c => ?_) (fun c => ?_)
    · have k := k.1 c
      refine Ex.fg (L := [pu, pu, pu, .int x3, pu, pu, pu]) ⟨Or.inr ⟨rfl, rfl⟩, ⟨Or.inr ⟨rfl, rfl⟩, ⟨Or.inr ⟨rfl, rfl⟩, ⟨Or.inl rfl, ⟨Or.inr ⟨rfl, rfl⟩, ⟨Or.inr ⟨rfl, rfl⟩, ⟨Or.inl rfl, trivial⟩⟩⟩⟩⟩⟩⟩ ?_
      exact hX59 x3 s k
    · have k := k.2 c
      refine Ex.seg hq 3 (j := 22) (L' := [.ref 46, .int x1, .int x2, .int x3, .int x4, .int x5, pu]) (S' := [.int x5, .int x1, .ref 46]) (h' := hpS s) rfl ?_
      refine Ex.cl hq rfl rfl ?_
      refine Rn.mono (q_102 (d := d + 0) x1 x5 s k) ?_
      rintro _ _ ⟨r4, s3, rfl, rfl, k⟩
      show Ex sc (d + 2) 101 23 [.ref 46, .int x1, .int x2, .int x3, .int x4, .int x5, pu] [.int r4] (hpS s3) _
      refine Ex.seg hq 3 (j := 26) (L' := [.ref 46, .int x1, .int x2, .int x3, .int x4, .int x5, .int r4]) (S' := [.int (-1 : Int32), .int x2]) (h' := hpS s3) rfl ?_
      refine Ex.i2 hq rfl (fun c => ?_) (fun c => ?_)
      · have k := k.1 c
        refine Ex.seg hq 2 (j := 39) (L' := [.ref 46, .int x1, .int x2, .int x3, .int x4, .int x5, .int r4]) (S' := [.int r4, .int x2]) (h' := hpS s3) rfl ?_
        refine Ex.cl hq rfl rfl ?_
        refine Rn.mono (q_184 (d := d + 1) x2 r4 s3 k) ?_
        rintro _ _ ⟨r6, s5, rfl, hzr6, rfl, k⟩
        show Ex sc (d + 2) 101 40 [.ref 46, .int x1, .int x2, .int x3, .int x4, .int x5, .int r4] [.int r6] (hpS s5) _
        refine Ex.i1 hq rfl (fun c => ?_) (fun c => ?_)
        · have k := k.1 c
          refine Ex.seg hq 2 (j := 16) (L' := [.ref 46, .int x1, .int x2, .int x3, .int x4, .int (x5 + (1 : Int32)), .int r4]) (S' := []) (h' := hpS s5) rfl ?_
          refine Ex.fg (L := [.ref 46, .int x1, .int x2, .int x3, .int x4, .int (x5 + (1 : Int32)), pu]) ⟨Or.inl rfl, ⟨Or.inl rfl, ⟨Or.inl rfl, ⟨Or.inl rfl, ⟨Or.inl rfl, ⟨Or.inl rfl, ⟨Or.inr ⟨rfl, rfl⟩, trivial⟩⟩⟩⟩⟩⟩⟩ ?_
          exact ih x1 x2 x3 x4 (x5 + (1 : Int32)) s5 k hX59
        · have k := k.2 c
          refine Ex.seg hq 1 (j := 42) (L' := [.ref 46, .int x1, .int x2, .int x3, .int x4, .int x5, .int r4]) (S' := [.int r4]) (h' := hpS s5) rfl ?_
          refine Ex.cl hq rfl rfl ?_
          refine Rn.mono (q_283 (d := d + 1) r4 s5 k) ?_
          rintro _ _ ⟨r8, s7, rfl, rfl, k⟩
          show Ex sc (d + 2) 101 43 [.ref 46, .int x1, .int x2, .int x3, .int x4, .int x5, .int r4] [.int r8] (hpS s7) _
          refine Ex.seg hq 1 (j := 44) (L' := [.ref 46, .int x1, .int x2, .int x3, .int x4, .int x5, .int r4]) (S' := [.int (5 : Int32), .int r8]) (h' := hpS s7) rfl ?_
          refine Ex.i2 hq rfl (fun c => ?_) (fun c => ?_)
          · have k := k.1 c
            refine Ex.seg hq 2 (j := 16) (L' := [.ref 46, .int x1, .int x2, .int x3, .int x4, .int (x5 + (1 : Int32)), .int r4]) (S' := []) (h' := hpS s7) rfl ?_
            refine Ex.fg (L := [.ref 46, .int x1, .int x2, .int x3, .int x4, .int (x5 + (1 : Int32)), pu]) ⟨Or.inl rfl, ⟨Or.inl rfl, ⟨Or.inl rfl, ⟨Or.inl rfl, ⟨Or.inl rfl, ⟨Or.inl rfl, ⟨Or.inr ⟨rfl, rfl⟩, trivial⟩⟩⟩⟩⟩⟩⟩ ?_
            exact ih x1 x2 x3 x4 (x5 + (1 : Int32)) s7 k hX59
          · have k := k.2 c
            refine Ex.seg hq 10 (j := 55) (L' := [.ref 46, .int x1, .int x2, .int x3, .int x4, .int x5, .int r4]) (S' := [.int r4, .int x1, .ref 46, .int (r4 ||| ((1 : Int32) <<< (x2 &&& 31))), .int x2, .ref 46]) (h' := hpS s7) rfl ?_
            refine Ex.cl hq rfl rfl ?_
            refine Rn.mono (q_103 (d := d + 0) x1 r4 s7 k) ?_
            rintro _ _ ⟨r10, s9, rfl, rfl, k⟩
            show Ex sc (d + 2) 101 56 [.ref 46, .int x1, .int x2, .int x3, .int x4, .int x5, .int r4] [.int r10, .int (r4 ||| ((1 : Int32) <<< (x2 &&& 31))), .int x2, .ref 46] (hpS s9) _
            refine Ex.cl hq rfl rfl ?_
            refine Rn.mono (q_105 (d := d + 0) x2 (r4 ||| ((1 : Int32) <<< (x2 &&& 31))) r10 s9 k) ?_
            rintro _ _ ⟨s11, rfl, rfl, k⟩
            show Ex sc (d + 2) 101 57 [.ref 46, .int x1, .int x2, .int x3, .int x4, .int x5, .int r4] [] (hpS s11) _
            refine Ex.seg hq 2 (j := 16) (L' := [.ref 46, .int x1, .int x2, .int x3, .int x4, .int (x5 + (1 : Int32)), .int r4]) (S' := []) (h' := hpS s11) rfl ?_
            refine Ex.fg (L := [.ref 46, .int x1, .int x2, .int x3, .int x4, .int (x5 + (1 : Int32)), pu]) ⟨Or.inl rfl, ⟨Or.inl rfl, ⟨Or.inl rfl, ⟨Or.inl rfl, ⟨Or.inl rfl, ⟨Or.inl rfl, ⟨Or.inr ⟨rfl, rfl⟩, trivial⟩⟩⟩⟩⟩⟩⟩ ?_
            exact ih x1 x2 x3 x4 (x5 + (1 : Int32)) s11 k hX59
      · have k := k.2 c
        refine Ex.seg hq 5 (j := 32) (L' := [.ref 46, .int x1, .int x2, .int x3, .int x4, .int x5, .int r4]) (S' := [.int r4, .int x1, .ref 46, .int x3, .int (100000 : Int32)]) (h' := hpS s3) rfl ?_
        refine Ex.cl hq rfl rfl ?_
        refine Rn.mono (q_103 (d := d + 0) x1 r4 s3 k) ?_
        rintro _ _ ⟨r14, s13, rfl, rfl, k⟩
        show Ex sc (d + 2) 101 33 [.ref 46, .int x1, .int x2, .int x3, .int x4, .int x5, .int r4] [.int r14, .int x3, .int (100000 : Int32)] (hpS s13) _
        refine Ex.seg hq 6 (j := 16) (L' := [.ref 46, .int x1, .int x2, .int (if (x3 + r14) < (100000 : Int32) then (x3 + r14) else (100000 : Int32)), .int x4, .int (x5 + (1 : Int32)), .int r4]) (S' := []) (h' := hpS s13) rfl ?_
        refine Ex.fg (L := [.ref 46, .int x1, .int x2, .int (if (x3 + r14) < (100000 : Int32) then (x3 + r14) else (100000 : Int32)), .int x4, .int (x5 + (1 : Int32)), pu]) ⟨Or.inl rfl, ⟨Or.inl rfl, ⟨Or.inl rfl, ⟨Or.inl rfl, ⟨Or.inl rfl, ⟨Or.inl rfl, ⟨Or.inr ⟨rfl, rfl⟩, trivial⟩⟩⟩⟩⟩⟩⟩ ?_
        exact ih x1 x2 (if (x3 + r14) < (100000 : Int32) then (x3 + r14) else (100000 : Int32)) x4 (x5 + (1 : Int32)) s13 k hX59
/-- RowAuditor$Rounder.goOn(II)I -/
def w_101 (p1 : Int32) (p2 : Int32) (s : ST) (K : Int32 → ST → Prop) : Prop := w_181 p1 (0 : Int32) (8 : Int32) s (fun r2 s1 => ((r2 = 0 → (∃ m, w_101_L16 m p1 p2 (0 : Int32) (0 : Int32) (0 : Int32) s1 (fun y3 s15 => K y3 s15) K)) ∧ (¬ (r2 = 0) → (pin p1 9 = true ∧ (∃ m, w_101_L16 m p1 p2 (0 : Int32) ((s1.2.1 49) (p1).toNatClampNeg) (0 : Int32) s1 (fun y3 s16 => K y3 s16) K)))))
theorem q_101 {d : Nat} {K : Int32 → ST → Prop} (p1 : Int32) (p2 : Int32) (s : ST) (k : w_101 p1 p2 s K) : Rn sc (d + 2) 101 [.ref 46, .int p1, .int p2] (hpS s) (kI K) := by
  have hq : prog[101]? = some pm101 := rfl
  refine Rn.of (L := [.ref 46, .int p1, .int p2, pu, pu, pu, pu]) hq rfl rfl ?_
  unfold w_101 at k
  refine Ex.seg hq 5 (j := 5) (L' := [.ref 46, .int p1, .int p2, .int (0 : Int32), pu, pu, pu]) (S' := [.int (8 : Int32), .int (0 : Int32), .int p1]) (h' := hpS s) rfl ?_
  refine Ex.cl hq rfl rfl ?_
  refine Rn.mono (q_181 (d := d + 1) p1 (0 : Int32) (8 : Int32) s k) ?_
  rintro _ _ ⟨r2, s1, rfl, hzr2, rfl, k⟩
  show Ex sc (d + 2) 101 6 [.ref 46, .int p1, .int p2, .int (0 : Int32), pu, pu, pu] [.int r2] (hpS s1) _
  refine Ex.i1 hq rfl (fun c => ?_) (fun c => ?_)
  · have k := k.1 c
    refine Ex.seg hq 4 (j := 16) (L' := [.ref 46, .int p1, .int p2, .int (0 : Int32), .int (0 : Int32), .int (0 : Int32), pu]) (S' := []) (h' := hpS s1) rfl ?_
    obtain ⟨m, k⟩ := k
    refine q_101_L16 (d := d) m p1 p2 (0 : Int32) (0 : Int32) (0 : Int32) s1 k ?_
    · intro y3 s15 k
      refine Ex.seg hq 1 (j := 60) (L' := [pu, pu, pu, .int y3, pu, pu, pu]) (S' := [.int y3]) (h' := hpS s15) rfl ?_
      exact Ex.rt hq rfl rfl ⟨y3, s15, rfl, rfl, k⟩
  · have k := k.2 c
    refine Ex.seg hq 3 (j := 10) (L' := [.ref 46, .int p1, .int p2, .int (0 : Int32), pu, pu, pu]) (S' := [.int p1, .ref 49]) (h' := hpS s1) rfl ?_
    obtain ⟨hin, k⟩ := k
    refine Ex.ial hq rfl rfl hin ?_
    refine Ex.seg hq 4 (j := 16) (L' := [.ref 46, .int p1, .int p2, .int (0 : Int32), .int ((s1.2.1 49) (p1).toNatClampNeg), .int (0 : Int32), pu]) (S' := []) (h' := hpS s1) rfl ?_
    obtain ⟨m, k⟩ := k
    refine q_101_L16 (d := d) m p1 p2 (0 : Int32) ((s1.2.1 49) (p1).toNatClampNeg) (0 : Int32) s1 k ?_
    · intro y3 s16 k
      refine Ex.seg hq 1 (j := 60) (L' := [pu, pu, pu, .int y3, pu, pu, pu]) (S' := [.int y3]) (h' := hpS s16) rfl ?_
      exact Ex.rt hq rfl rfl ⟨y3, s16, rfl, rfl, k⟩
def w_99_L52 : Nat → Int32 → Int32 → Int32 → Int32 → Int32 → Int32 → ST → (Int32 → ST → Prop) → (Int32 → ST → Prop) → (Int32 → ST → Prop) → Prop
  | 0, _, _, _, _, _, _, _, _, _, _ => False
  | n + 1, x5, x6, x7, x8, x10, x11, s, X110, X72, K => (((s.1 801) ≤ x11 → X110 x10 s) ∧ (¬ ((s.1 801) ≤ x11) → (((100000 : Int32) ≤ x10 → X110 x10 s) ∧ (¬ ((100000 : Int32) ≤ x10) → w_123 x11 s (fun r18 s17 => w_9 r18 (3 : Int32) s17 (fun r20 s19 => ((r20 ≤ x8 → w_98 r18 s19 (fun r22 s21 => ((r22 = 0 → w_99_L52 n x5 x6 x7 x8 x10 (x11 + (1 : Int32)) s21 X110 X72 K) ∧ (¬ (r22 = 0) → w_119 r18 s21 (fun r24 s23 => ((x7 < (if 0 ≤ (r24 - x6) then (r24 - x6) else 0 - (r24 - x6)) → w_99_L52 n x5 x6 x7 x8 x10 (x11 + (1 : Int32)) s23 X110 X72 K) ∧ (¬ (x7 < (if 0 ≤ (r24 - x6) then (r24 - x6) else 0 - (r24 - x6))) → w_9 r18 (1 : Int32) s23 (fun r26 s25 => w_100 r26 x5 s25 (fun r28 s27 => w_16 r18 s27 (fun r30 s29 => w_100 r30 x5 s29 (fun r32 s31 => w_101 r28 r32 s31 (fun r34 s33 => w_99_L52 n x5 x6 x7 x8 (if (x10 + r34) < (100000 : Int32) then (x10 + r34) else (100000 : Int32)) (x11 + (1 : Int32)) s33 X110 X72 K)))))))))))) ∧ (¬ (r20 ≤ x8) → X72 x10 s19))))))))
theorem q_99_L52 {d : Nat} {X110 : Int32 → ST → Prop} {X72 : Int32 → ST → Prop} {K : Int32 → ST → Prop} : ∀ (n : Nat) (x5 : Int32) (x6 : Int32) (x7 : Int32) (x8 : Int32) (x10 : Int32) (x11 : Int32) (s : ST), w_99_L52 n x5 x6 x7 x8 x10 x11 s X110 X72 K → (∀ (y10 : Int32) (s : ST), X110 y10 s → Ex sc (d + 3) 99 110 [pu, pu, pu, pu, pu, pu, pu, pu, pu, pu, .int y10, pu, pu, pu] [] (hpS s) (kI K)) → (∀ (y10 : Int32) (s : ST), X72 y10 s → Ex sc (d + 3) 99 72 [pu, pu, pu, pu, pu, pu, pu, pu, pu, pu, .int y10, pu, pu, pu] [] (hpS s) (kI K)) → Ex sc (d + 3) 99 52 [.ref 46, pu, pu, pu, pu, .int x5, .int x6, .int x7, .int x8, pu, .int x10, .int x11, pu, pu] [] (hpS s) (kI K) := by
  have hq : prog[99]? = some pm99 := rfl
  intro n
  induction n with
  | zero =>
    intro x5 x6 x7 x8 x10 x11 s k
    exact k.elim
  | succ n ih =>
    intro x5 x6 x7 x8 x10 x11 s k hX110 hX72
    rw [w_99_L52] at k
    refine Ex.seg hq 4 (j := 56) (L' := [.ref 46, pu, pu, pu, pu, .int x5, .int x6, .int x7, .int x8, pu, .int x10, .int x11, pu, pu]) (S' := [.int (s.1 801), .int x11]) (h' := hpS s) rfl ?_
    refine Ex.i2 hq rfl (fun c => ?_) (fun c => ?_)
    · have k := k.1 c
      refine Ex.fg (L := [pu, pu, pu, pu, pu, pu, pu, pu, pu, pu, .int x10, pu, pu, pu]) ⟨Or.inr ⟨rfl, rfl⟩, ⟨Or.inl rfl, ⟨Or.inl rfl, ⟨Or.inl rfl, ⟨Or.inl rfl, ⟨Or.inr ⟨rfl, rfl⟩, ⟨Or.inr ⟨rfl, rfl⟩, ⟨Or.inr ⟨rfl, rfl⟩, ⟨Or.inr ⟨rfl, rfl⟩, ⟨Or.inl rfl, ⟨Or.inl rfl, ⟨Or.inr ⟨rfl, rfl⟩, ⟨Or.inl rfl, ⟨Or.inl rfl, trivial⟩⟩⟩⟩⟩⟩⟩⟩⟩⟩⟩⟩⟩⟩ ?_
      exact hX110 x10 s k
    · have k := k.2 c
      refine Ex.seg hq 2 (j := 59) (L' := [.ref 46, pu, pu, pu, pu, .int x5, .int x6, .int x7, .int x8, pu, .int x10, .int x11, pu, pu]) (S' := [.int (100000 : Int32), .int x10]) (h' := hpS s) rfl ?_
      refine Ex.i2 hq rfl (fun c => ?_) (fun c => ?_)
      · have k := k.1 c
        refine Ex.fg (L := [pu, pu, pu, pu, pu, pu, pu, pu, pu, pu, .int x10, pu, pu, pu]) ⟨Or.inr ⟨rfl, rfl⟩, ⟨Or.inl rfl, ⟨Or.inl rfl, ⟨Or.inl rfl, ⟨Or.inl rfl, ⟨Or.inr ⟨rfl, rfl⟩, ⟨Or.inr ⟨rfl, rfl⟩, ⟨Or.inr ⟨rfl, rfl⟩, ⟨Or.inr ⟨rfl, rfl⟩, ⟨Or.inl rfl, ⟨Or.inl rfl, ⟨Or.inr ⟨rfl, rfl⟩, ⟨Or.inl rfl, ⟨Or.inl rfl, trivial⟩⟩⟩⟩⟩⟩⟩⟩⟩⟩⟩⟩⟩⟩ ?_
        exact hX110 x10 s k
      · have k := k.2 c
        refine Ex.seg hq 3 (j := 63) (L' := [.ref 46, pu, pu, pu, pu, .int x5, .int x6, .int x7, .int x8, pu, .int x10, .int x11, pu, pu]) (S' := [.int x11, .ref 8]) (h' := hpS s) rfl ?_
        refine Ex.cl hq rfl rfl ?_
        refine Rn.mono (q_123 (d := d + 2) x11 s k) ?_
        rintro _ _ ⟨r18, s17, rfl, rfl, k⟩
        show Ex sc (d + 3) 99 64 [.ref 46, pu, pu, pu, pu, .int x5, .int x6, .int x7, .int x8, pu, .int x10, .int x11, pu, pu] [.int r18] (hpS s17) _
        refine Ex.seg hq 5 (j := 69) (L' := [.ref 46, pu, pu, pu, pu, .int x5, .int x6, .int x7, .int x8, pu, .int x10, .int x11, .int r18, pu]) (S' := [.int (3 : Int32), .int r18, .ref 1]) (h' := hpS s17) rfl ?_
        refine Ex.cl hq rfl rfl ?_
        refine Rn.mono (q_9 (d := d + 2) r18 (3 : Int32) s17 k) ?_
        rintro _ _ ⟨r20, s19, rfl, rfl, k⟩
        show Ex sc (d + 3) 99 70 [.ref 46, pu, pu, pu, pu, .int x5, .int x6, .int x7, .int x8, pu, .int x10, .int x11, .int r18, pu] [.int r20] (hpS s19) _
        refine Ex.seg hq 1 (j := 71) (L' := [.ref 46, pu, pu, pu, pu, .int x5, .int x6, .int x7, .int x8, pu, .int x10, .int x11, .int r18, pu]) (S' := [.int x8, .int r20]) (h' := hpS s19) rfl ?_
        refine Ex.i2 hq rfl (fun c => ?_) (fun c => ?_)
        · have k := k.1 c
          refine Ex.seg hq 2 (j := 75) (L' := [.ref 46, pu, pu, pu, pu, .int x5, .int x6, .int x7, .int x8, pu, .int x10, .int x11, .int r18, pu]) (S' := [.int r18, .ref 46]) (h' := hpS s19) rfl ?_
          refine Ex.cl hq rfl rfl ?_
          refine Rn.mono (q_98 (d := d + 1) r18 s19 k) ?_
          rintro _ _ ⟨r22, s21, rfl, hzr22, rfl, k⟩
          show Ex sc (d + 3) 99 76 [.ref 46, pu, pu, pu, pu, .int x5, .int x6, .int x7, .int x8, pu, .int x10, .int x11, .int r18, pu] [.int r22] (hpS s21) _
          refine Ex.i1 hq rfl (fun c => ?_) (fun c => ?_)
          · have k := k.1 c
            refine Ex.seg hq 2 (j := 52) (L' := [.ref 46, pu, pu, pu, pu, .int x5, .int x6, .int x7, .int x8, pu, .int x10, .int (x11 + (1 : Int32)), .int r18, pu]) (S' := []) (h' := hpS s21) rfl ?_
            refine Ex.fg (L := [.ref 46, pu, pu, pu, pu, .int x5, .int x6, .int x7, .int x8, pu, .int x10, .int (x11 + (1 : Int32)), pu, pu]) ⟨Or.inl rfl, ⟨Or.inl rfl, ⟨Or.inl rfl, ⟨Or.inl rfl, ⟨Or.inl rfl, ⟨Or.inl rfl, ⟨Or.inl rfl, ⟨Or.inl rfl, ⟨Or.inl rfl, ⟨Or.inl rfl, ⟨Or.inl rfl, ⟨Or.inl rfl, ⟨Or.inr ⟨rfl, rfl⟩, ⟨Or.inl rfl, trivial⟩⟩⟩⟩⟩⟩⟩⟩⟩⟩⟩⟩⟩⟩ ?_
            exact ih x5 x6 x7 x8 x10 (x11 + (1 : Int32)) s21 k hX110 hX72
          · have k := k.2 c
            refine Ex.seg hq 3 (j := 80) (L' := [.ref 46, pu, pu, pu, pu, .int x5, .int x6, .int x7, .int x8, pu, .int x10, .int x11, .int r18, pu]) (S' := [.int r18, .ref 8]) (h' := hpS s21) rfl ?_
            refine Ex.cl hq rfl rfl ?_
            refine Rn.mono (q_119 (d := d + 2) r18 s21 k) ?_
            rintro _ _ ⟨r24, s23, rfl, rfl, k⟩
            show Ex sc (d + 3) 99 81 [.ref 46, pu, pu, pu, pu, .int x5, .int x6, .int x7, .int x8, pu, .int x10, .int x11, .int r18, pu] [.int r24] (hpS s23) _
            refine Ex.seg hq 4 (j := 85) (L' := [.ref 46, pu, pu, pu, pu, .int x5, .int x6, .int x7, .int x8, pu, .int x10, .int x11, .int r18, pu]) (S' := [.int x7, .int (if 0 ≤ (r24 - x6) then (r24 - x6) else 0 - (r24 - x6))]) (h' := hpS s23) rfl ?_
            refine Ex.i2 hq rfl (fun c => ?_) (fun c => ?_)
            · have k := k.1 c
              refine Ex.seg hq 2 (j := 52) (L' := [.ref 46, pu, pu, pu, pu, .int x5, .int x6, .int x7, .int x8, pu, .int x10, .int (x11 + (1 : Int32)), .int r18, pu]) (S' := []) (h' := hpS s23) rfl ?_
              refine Ex.fg (L := [.ref 46, pu, pu, pu, pu, .int x5, .int x6, .int x7, .int x8, pu, .int x10, .int (x11 + (1 : Int32)), pu, pu]) ⟨Or.inl rfl, ⟨Or.inl rfl, ⟨Or.inl rfl, ⟨Or.inl rfl, ⟨Or.inl rfl, ⟨Or.inl rfl, ⟨Or.inl rfl, ⟨Or.inl rfl, ⟨Or.inl rfl, ⟨Or.inl rfl, ⟨Or.inl rfl, ⟨Or.inl rfl, ⟨Or.inr ⟨rfl, rfl⟩, ⟨Or.inl rfl, trivial⟩⟩⟩⟩⟩⟩⟩⟩⟩⟩⟩⟩⟩⟩ ?_
              exact ih x5 x6 x7 x8 x10 (x11 + (1 : Int32)) s23 k hX110 hX72
            · have k := k.2 c
              refine Ex.seg hq 4 (j := 90) (L' := [.ref 46, pu, pu, pu, pu, .int x5, .int x6, .int x7, .int x8, pu, .int x10, .int x11, .int r18, pu]) (S' := [.int (1 : Int32), .int r18, .ref 1]) (h' := hpS s23) rfl ?_
              refine Ex.cl hq rfl rfl ?_
              refine Rn.mono (q_9 (d := d + 2) r18 (1 : Int32) s23 k) ?_
              rintro _ _ ⟨r26, s25, rfl, rfl, k⟩
              show Ex sc (d + 3) 99 91 [.ref 46, pu, pu, pu, pu, .int x5, .int x6, .int x7, .int x8, pu, .int x10, .int x11, .int r18, pu] [.int r26] (hpS s25) _
              refine Ex.seg hq 1 (j := 92) (L' := [.ref 46, pu, pu, pu, pu, .int x5, .int x6, .int x7, .int x8, pu, .int x10, .int x11, .int r18, pu]) (S' := [.int x5, .int r26]) (h' := hpS s25) rfl ?_
              refine Ex.cl hq rfl rfl ?_
              refine Rn.mono (q_100 (d := d + 2) r26 x5 s25 k) ?_
              rintro _ _ ⟨r28, s27, rfl, rfl, k⟩
              show Ex sc (d + 3) 99 93 [.ref 46, pu, pu, pu, pu, .int x5, .int x6, .int x7, .int x8, pu, .int x10, .int x11, .int r18, pu] [.int r28] (hpS s27) _
              refine Ex.seg hq 8 (j := 101) (L' := [.ref 46, pu, pu, pu, pu, .int x5, .int x6, .int x7, .int x8, pu, .int x10, .int x11, .int r18, .int r28]) (S' := [.int r18, .ref 1, .int r28, .ref 46, .int x10, .int (100000 : Int32)]) (h' := hpS s27) rfl ?_
              refine Ex.cl hq rfl rfl ?_
              refine Rn.mono (q_16 (d := d + 1) r18 s27 k) ?_
              rintro _ _ ⟨r30, s29, rfl, rfl, k⟩
              show Ex sc (d + 3) 99 102 [.ref 46, pu, pu, pu, pu, .int x5, .int x6, .int x7, .int x8, pu, .int x10, .int x11, .int r18, .int r28] [.int r30, .int r28, .ref 46, .int x10, .int (100000 : Int32)] (hpS s29) _
              refine Ex.seg hq 1 (j := 103) (L' := [.ref 46, pu, pu, pu, pu, .int x5, .int x6, .int x7, .int x8, pu, .int x10, .int x11, .int r18, .int r28]) (S' := [.int x5, .int r30, .int r28, .ref 46, .int x10, .int (100000 : Int32)]) (h' := hpS s29) rfl ?_
              refine Ex.cl hq rfl rfl ?_
              refine Rn.mono (q_100 (d := d + 2) r30 x5 s29 k) ?_
              rintro _ _ ⟨r32, s31, rfl, rfl, k⟩
              show Ex sc (d + 3) 99 104 [.ref 46, pu, pu, pu, pu, .int x5, .int x6, .int x7, .int x8, pu, .int x10, .int x11, .int r18, .int r28] [.int r32, .int r28, .ref 46, .int x10, .int (100000 : Int32)] (hpS s31) _
              refine Ex.cl hq rfl rfl ?_
              refine Rn.mono (q_101 (d := d + 0) r28 r32 s31 k) ?_
              rintro _ _ ⟨r34, s33, rfl, rfl, k⟩
              show Ex sc (d + 3) 99 105 [.ref 46, pu, pu, pu, pu, .int x5, .int x6, .int x7, .int x8, pu, .int x10, .int x11, .int r18, .int r28] [.int r34, .int x10, .int (100000 : Int32)] (hpS s33) _
              refine Ex.seg hq 5 (j := 52) (L' := [.ref 46, pu, pu, pu, pu, .int x5, .int x6, .int x7, .int x8, pu, .int (if (x10 + r34) < (100000 : Int32) then (x10 + r34) else (100000 : Int32)), .int (x11 + (1 : Int32)), .int r18, .int r28]) (S' := []) (h' := hpS s33) rfl ?_
              refine Ex.fg (L := [.ref 46, pu, pu, pu, pu, .int x5, .int x6, .int x7, .int x8, pu, .int (if (x10 + r34) < (100000 : Int32) then (x10 + r34) else (100000 : Int32)), .int (x11 + (1 : Int32)), pu, pu]) ⟨Or.inl rfl, ⟨Or.inl rfl, ⟨Or.inl rfl, ⟨Or.inl rfl, ⟨Or.inl rfl, ⟨Or.inl rfl, ⟨Or.inl rfl, ⟨Or.inl rfl, ⟨Or.inl rfl, ⟨Or.inl rfl, ⟨Or.inl rfl, ⟨Or.inl rfl, ⟨Or.inr ⟨rfl, rfl⟩, ⟨Or.inr ⟨rfl, rfl⟩, trivial⟩⟩⟩⟩⟩⟩⟩⟩⟩⟩⟩⟩⟩⟩ ?_
              exact ih x5 x6 x7 x8 (if (x10 + r34) < (100000 : Int32) then (x10 + r34) else (100000 : Int32)) (x11 + (1 : Int32)) s33 k hX110 hX72
        · have k := k.2 c
          refine Ex.fg (L := [pu, pu, pu, pu, pu, pu, pu, pu, pu, pu, .int x10, pu, pu, pu]) ⟨Or.inr ⟨rfl, rfl⟩, ⟨Or.inl rfl, ⟨Or.inl rfl, ⟨Or.inl rfl, ⟨Or.inl rfl, ⟨Or.inr ⟨rfl, rfl⟩, ⟨Or.inr ⟨rfl, rfl⟩, ⟨Or.inr ⟨rfl, rfl⟩, ⟨Or.inr ⟨rfl, rfl⟩, ⟨Or.inl rfl, ⟨Or.inl rfl, ⟨Or.inr ⟨rfl, rfl⟩, ⟨Or.inr ⟨rfl, rfl⟩, ⟨Or.inl rfl, trivial⟩⟩⟩⟩⟩⟩⟩⟩⟩⟩⟩⟩⟩⟩ ?_
          exact hX72 x10 s19 k
/-- RowAuditor$Rounder.roundsFrom(III)I -/
def w_99 (p1 : Int32) (p2 : Int32) (p3 : Int32) (s : ST) (K : Int32 → ST → Prop) : Prop := w_123 p1 s (fun r2 s1 => w_9 r2 (1 : Int32) s1 (fun r4 s3 => w_119 r2 s3 (fun r6 s5 => (¬ (100 : Int32) = 0 ∧ w_9 r2 (3 : Int32) s5 (fun r8 s7 => w_16 r2 s7 (fun r10 s9 => w_100 r10 r4 s9 (fun r12 s11 => w_106 s11 (fun s13 => w_105 r12 ((1 : Int32) <<< (r12 &&& 31)) (1 : Int32) s13 (fun s15 => (∃ m, w_99_L52 m r4 r6 ((r6 * p3) / (100 : Int32)) (r8 + p2) (0 : Int32) (p1 + (1 : Int32)) s15 (fun y10 s35 => K y10 s35) (fun y10 s36 => K y10 s36) K))))))))))
theorem q_99 {d : Nat} {K : Int32 → ST → Prop} (p1 : Int32) (p2 : Int32) (p3 : Int32) (s : ST) (k : w_99 p1 p2 p3 s K) : Rn sc (d + 3) 99 [.ref 46, .int p1, .int p2, .int p3] (hpS s) (kI K) := by
  have hq : prog[99]? = some pm99 := rfl
  refine Rn.of (L := [.ref 46, .int p1, .int p2, .int p3, pu, pu, pu, pu, pu, pu, pu, pu, pu, pu]) hq rfl rfl ?_
  unfold w_99 at k
  refine Ex.seg hq 3 (j := 3) (L' := [.ref 46, .int p1, .int p2, .int p3, pu, pu, pu, pu, pu, pu, pu, pu, pu, pu]) (S' := [.int p1, .ref 8]) (h' := hpS s) rfl ?_
  refine Ex.cl hq rfl rfl ?_
  refine Rn.mono (q_123 (d := d + 2) p1 s k) ?_
  rintro _ _ ⟨r2, s1, rfl, rfl, k⟩
  show Ex sc (d + 3) 99 4 [.ref 46, .int p1, .int p2, .int p3, pu, pu, pu, pu, pu, pu, pu, pu, pu, pu] [.int r2] (hpS s1) _
  refine Ex.seg hq 5 (j := 9) (L' := [.ref 46, .int p1, .int p2, .int p3, .int r2, pu, pu, pu, pu, pu, pu, pu, pu, pu]) (S' := [.int (1 : Int32), .int r2, .ref 1]) (h' := hpS s1) rfl ?_
  refine Ex.cl hq rfl rfl ?_
  refine Rn.mono (q_9 (d := d + 2) r2 (1 : Int32) s1 k) ?_
  rintro _ _ ⟨r4, s3, rfl, rfl, k⟩
  show Ex sc (d + 3) 99 10 [.ref 46, .int p1, .int p2, .int p3, .int r2, pu, pu, pu, pu, pu, pu, pu, pu, pu] [.int r4] (hpS s3) _
  refine Ex.seg hq 4 (j := 14) (L' := [.ref 46, .int p1, .int p2, .int p3, .int r2, .int r4, pu, pu, pu, pu, pu, pu, pu, pu]) (S' := [.int r2, .ref 8]) (h' := hpS s3) rfl ?_
  refine Ex.cl hq rfl rfl ?_
  refine Rn.mono (q_119 (d := d + 2) r2 s3 k) ?_
  rintro _ _ ⟨r6, s5, rfl, rfl, k⟩
  show Ex sc (d + 3) 99 15 [.ref 46, .int p1, .int p2, .int p3, .int r2, .int r4, pu, pu, pu, pu, pu, pu, pu, pu] [.int r6] (hpS s5) _
  refine Ex.seg hq 5 (j := 20) (L' := [.ref 46, .int p1, .int p2, .int p3, .int r2, .int r4, .int r6, pu, pu, pu, pu, pu, pu, pu]) (S' := [.int (100 : Int32), .int (r6 * p3)]) (h' := hpS s5) rfl ?_
  obtain ⟨hz, k⟩ := k
  refine Ex.dv hq rfl hz ?_
  refine Ex.seg hq 5 (j := 26) (L' := [.ref 46, .int p1, .int p2, .int p3, .int r2, .int r4, .int r6, .int ((r6 * p3) / (100 : Int32)), pu, pu, pu, pu, pu, pu]) (S' := [.int (3 : Int32), .int r2, .ref 1]) (h' := hpS s5) rfl ?_
  refine Ex.cl hq rfl rfl ?_
  refine Rn.mono (q_9 (d := d + 2) r2 (3 : Int32) s5 k) ?_
  rintro _ _ ⟨r8, s7, rfl, rfl, k⟩
  show Ex sc (d + 3) 99 27 [.ref 46, .int p1, .int p2, .int p3, .int r2, .int r4, .int r6, .int ((r6 * p3) / (100 : Int32)), pu, pu, pu, pu, pu, pu] [.int r8] (hpS s7) _
  refine Ex.seg hq 6 (j := 33) (L' := [.ref 46, .int p1, .int p2, .int p3, .int r2, .int r4, .int r6, .int ((r6 * p3) / (100 : Int32)), .int (r8 + p2), pu, pu, pu, pu, pu]) (S' := [.int r2, .ref 1]) (h' := hpS s7) rfl ?_
  refine Ex.cl hq rfl rfl ?_
  refine Rn.mono (q_16 (d := d + 1) r2 s7 k) ?_
  rintro _ _ ⟨r10, s9, rfl, rfl, k⟩
  show Ex sc (d + 3) 99 34 [.ref 46, .int p1, .int p2, .int p3, .int r2, .int r4, .int r6, .int ((r6 * p3) / (100 : Int32)), .int (r8 + p2), pu, pu, pu, pu, pu] [.int r10] (hpS s9) _
  refine Ex.seg hq 1 (j := 35) (L' := [.ref 46, .int p1, .int p2, .int p3, .int r2, .int r4, .int r6, .int ((r6 * p3) / (100 : Int32)), .int (r8 + p2), pu, pu, pu, pu, pu]) (S' := [.int r4, .int r10]) (h' := hpS s9) rfl ?_
  refine Ex.cl hq rfl rfl ?_
  refine Rn.mono (q_100 (d := d + 2) r10 r4 s9 k) ?_
  rintro _ _ ⟨r12, s11, rfl, rfl, k⟩
  show Ex sc (d + 3) 99 36 [.ref 46, .int p1, .int p2, .int p3, .int r2, .int r4, .int r6, .int ((r6 * p3) / (100 : Int32)), .int (r8 + p2), pu, pu, pu, pu, pu] [.int r12] (hpS s11) _
  refine Ex.seg hq 2 (j := 38) (L' := [.ref 46, .int p1, .int p2, .int p3, .int r2, .int r4, .int r6, .int ((r6 * p3) / (100 : Int32)), .int (r8 + p2), .int r12, pu, pu, pu, pu]) (S' := [.ref 46]) (h' := hpS s11) rfl ?_
  refine Ex.cl hq rfl rfl ?_
  refine Rn.mono (q_106 (d := d + 0) s11 k) ?_
  rintro _ _ ⟨s13, rfl, rfl, k⟩
  show Ex sc (d + 3) 99 39 [.ref 46, .int p1, .int p2, .int p3, .int r2, .int r4, .int r6, .int ((r6 * p3) / (100 : Int32)), .int (r8 + p2), .int r12, pu, pu, pu, pu] [] (hpS s13) _
  refine Ex.seg hq 6 (j := 45) (L' := [.ref 46, .int p1, .int p2, .int p3, .int r2, .int r4, .int r6, .int ((r6 * p3) / (100 : Int32)), .int (r8 + p2), .int r12, pu, pu, pu, pu]) (S' := [.int (1 : Int32), .int ((1 : Int32) <<< (r12 &&& 31)), .int r12, .ref 46]) (h' := hpS s13) rfl ?_
  refine Ex.cl hq rfl rfl ?_
  refine Rn.mono (q_105 (d := d + 1) r12 ((1 : Int32) <<< (r12 &&& 31)) (1 : Int32) s13 k) ?_
  rintro _ _ ⟨s15, rfl, rfl, k⟩
  show Ex sc (d + 3) 99 46 [.ref 46, .int p1, .int p2, .int p3, .int r2, .int r4, .int r6, .int ((r6 * p3) / (100 : Int32)), .int (r8 + p2), .int r12, pu, pu, pu, pu] [] (hpS s15) _
  refine Ex.seg hq 6 (j := 52) (L' := [.ref 46, .int p1, .int p2, .int p3, .int r2, .int r4, .int r6, .int ((r6 * p3) / (100 : Int32)), .int (r8 + p2), .int r12, .int (0 : Int32), .int (p1 + (1 : Int32)), pu, pu]) (S' := []) (h' := hpS s15) rfl ?_
  obtain ⟨m, k⟩ := k
  refine Ex.fg (L := [.ref 46, pu, pu, pu, pu, .int r4, .int r6, .int ((r6 * p3) / (100 : Int32)), .int (r8 + p2), pu, .int (0 : Int32), .int (p1 + (1 : Int32)), pu, pu]) ⟨Or.inl rfl, ⟨Or.inr ⟨rfl, rfl⟩, ⟨Or.inr ⟨rfl, rfl⟩, ⟨Or.inr ⟨rfl, rfl⟩, ⟨Or.inr ⟨rfl, rfl⟩, ⟨Or.inl rfl, ⟨Or.inl rfl, ⟨Or.inl rfl, ⟨Or.inl rfl, ⟨Or.inr ⟨rfl, rfl⟩, ⟨Or.inl rfl, ⟨Or.inl rfl, ⟨Or.inl rfl, ⟨Or.inl rfl, trivial⟩⟩⟩⟩⟩⟩⟩⟩⟩⟩⟩⟩⟩⟩ ?_
  refine q_99_L52 (d := d) m r4 r6 ((r6 * p3) / (100 : Int32)) (r8 + p2) (0 : Int32) (p1 + (1 : Int32)) s15 k ?_ ?_
  · intro y10 s35 k
    refine Ex.seg hq 1 (j := 111) (L' := [pu, pu, pu, pu, pu, pu, pu, pu, pu, pu, .int y10, pu, pu, pu]) (S' := [.int y10]) (h' := hpS s35) rfl ?_
    exact Ex.rt hq rfl rfl ⟨y10, s35, rfl, rfl, k⟩
  · intro y10 s36 k
    refine Ex.seg hq 2 (j := 111) (L' := [pu, pu, pu, pu, pu, pu, pu, pu, pu, pu, .int y10, pu, pu, pu]) (S' := [.int y10]) (h' := hpS s36) rfl ?_
    exact Ex.rt hq rfl rfl ⟨y10, s36, rfl, rfl, k⟩
def w_97_L4 : Nat → Int32 → Int32 → Int32 → Int32 → ST → (Int32 → ST → Prop) → (Int32 → ST → Prop) → Prop
  | 0, _, _, _, _, _, _, _ => False
  | n + 1, x1, x2, x3, x4, s, X31, K => (((s.1 801) ≤ x4 → X31 x3 s) ∧ (¬ ((s.1 801) ≤ x4) → (((100000 : Int32) ≤ x3 → X31 x3 s) ∧ (¬ ((100000 : Int32) ≤ x3) → w_123 x4 s (fun r2 s1 => w_98 r2 s1 (fun r4 s3 => ((r4 = 0 → w_97_L4 n x1 x2 x3 (x4 + (1 : Int32)) s3 X31 K) ∧ (¬ (r4 = 0) → w_99 x4 x1 x2 s3 (fun r6 s5 => w_97_L4 n x1 x2 (if (x3 + r6) < (100000 : Int32) then (x3 + r6) else (100000 : Int32)) (x4 + (1 : Int32)) s5 X31 K)))))))))
theorem q_97_L4 {d : Nat} {X31 : Int32 → ST → Prop} {K : Int32 → ST → Prop} : ∀ (n : Nat) (x1 : Int32) (x2 : Int32) (x3 : Int32) (x4 : Int32) (s : ST), w_97_L4 n x1 x2 x3 x4 s X31 K → (∀ (y3 : Int32) (s : ST), X31 y3 s → Ex sc (d + 4) 97 31 [pu, pu, pu, .int y3, pu] [] (hpS s) (kI K)) → Ex sc (d + 4) 97 4 [.ref 46, .int x1, .int x2, .int x3, .int x4] [] (hpS s) (kI K) := by
  have hq : prog[97]? = some pm97 := rfl
  intro n
  induction n with
  | zero =>
    intro x1 x2 x3 x4 s k
    exact k.elim
  | succ n ih =>
    intro x1 x2 x3 x4 s k hX31
    rw [w_97_L4] at k
    refine Ex.seg hq 4 (j := 8) (L' := [.ref 46, .int x1, .int x2, .int x3, .int x4]) (S' := [.int (s.1 801), .int x4]) (h' := hpS s) rfl ?_
    refine Ex.i2 hq rfl (fun c => ?_) (fun c => ?_)
    · have k := k.1 c
      refine Ex.fg (L := [pu, pu, pu, .int x3, pu]) ⟨Or.inr ⟨rfl, rfl⟩, ⟨Or.inr ⟨rfl, rfl⟩, ⟨Or.inr ⟨rfl, rfl⟩, ⟨Or.inl rfl, ⟨Or.inr ⟨rfl, rfl⟩, trivial⟩⟩⟩⟩⟩ ?_
      exact hX31 x3 s k
    · have k := k.2 c
      refine Ex.seg hq 2 (j := 11) (L' := [.ref 46, .int x1, .int x2, .int x3, .int x4]) (S' := [.int (100000 : Int32), .int x3]) (h' := hpS s) rfl ?_
      refine Ex.i2 hq rfl (fun c => ?_) (fun c => ?_)
      · have k := k.1 c
        refine Ex.fg (L := [pu, pu, pu, .int x3, pu]) ⟨Or.inr ⟨rfl, rfl⟩, ⟨Or.inr ⟨rfl, rfl⟩, ⟨Or.inr ⟨rfl, rfl⟩, ⟨Or.inl rfl, ⟨Or.inr ⟨rfl, rfl⟩, trivial⟩⟩⟩⟩⟩ ?_
        exact hX31 x3 s k
      · have k := k.2 c
        refine Ex.seg hq 4 (j := 16) (L' := [.ref 46, .int x1, .int x2, .int x3, .int x4]) (S' := [.int x4, .ref 8, .ref 46]) (h' := hpS s) rfl ?_
        refine Ex.cl hq rfl rfl ?_
        refine Rn.mono (q_123 (d := d + 3) x4 s k) ?_
        rintro _ _ ⟨r2, s1, rfl, rfl, k⟩
        show Ex sc (d + 4) 97 17 [.ref 46, .int x1, .int x2, .int x3, .int x4] [.int r2, .ref 46] (hpS s1) _
        refine Ex.cl hq rfl rfl ?_
        refine Rn.mono (q_98 (d := d + 2) r2 s1 k) ?_
        rintro _ _ ⟨r4, s3, rfl, hzr4, rfl, k⟩
        show Ex sc (d + 4) 97 18 [.ref 46, .int x1, .int x2, .int x3, .int x4] [.int r4] (hpS s3) _
        refine Ex.i1 hq rfl (fun c => ?_) (fun c => ?_)
        · have k := k.1 c
          refine Ex.seg hq 2 (j := 4) (L' := [.ref 46, .int x1, .int x2, .int x3, .int (x4 + (1 : Int32))]) (S' := []) (h' := hpS s3) rfl ?_
          exact ih x1 x2 x3 (x4 + (1 : Int32)) s3 k hX31
        · have k := k.2 c
          refine Ex.seg hq 6 (j := 25) (L' := [.ref 46, .int x1, .int x2, .int x3, .int x4]) (S' := [.int x2, .int x1, .int x4, .ref 46, .int x3, .int (100000 : Int32)]) (h' := hpS s3) rfl ?_
          refine Ex.cl hq rfl rfl ?_
          refine Rn.mono (q_99 (d := d + 0) x4 x1 x2 s3 k) ?_
          rintro _ _ ⟨r6, s5, rfl, rfl, k⟩
          show Ex sc (d + 4) 97 26 [.ref 46, .int x1, .int x2, .int x3, .int x4] [.int r6, .int x3, .int (100000 : Int32)] (hpS s5) _
          refine Ex.seg hq 5 (j := 4) (L' := [.ref 46, .int x1, .int x2, .int (if (x3 + r6) < (100000 : Int32) then (x3 + r6) else (100000 : Int32)), .int (x4 + (1 : Int32))]) (S' := []) (h' := hpS s5) rfl ?_
          exact ih x1 x2 (if (x3 + r6) < (100000 : Int32) then (x3 + r6) else (100000 : Int32)) (x4 + (1 : Int32)) s5 k hX31
/-- RowAuditor$Rounder.countRounds(II)I -/
def w_97 (p1 : Int32) (p2 : Int32) (s : ST) (K : Int32 → ST → Prop) : Prop := (∃ m, w_97_L4 m p1 p2 (0 : Int32) (0 : Int32) s (fun y3 s7 => K y3 s7) K)
theorem q_97 {d : Nat} {K : Int32 → ST → Prop} (p1 : Int32) (p2 : Int32) (s : ST) (k : w_97 p1 p2 s K) : Rn sc (d + 4) 97 [.ref 46, .int p1, .int p2] (hpS s) (kI K) := by
  have hq : prog[97]? = some pm97 := rfl
  refine Rn.of (L := [.ref 46, .int p1, .int p2, pu, pu]) hq rfl rfl ?_
  unfold w_97 at k
  refine Ex.seg hq 4 (j := 4) (L' := [.ref 46, .int p1, .int p2, .int (0 : Int32), .int (0 : Int32)]) (S' := []) (h' := hpS s) rfl ?_
  obtain ⟨m, k⟩ := k
  refine q_97_L4 (d := d) m p1 p2 (0 : Int32) (0 : Int32) s k ?_
  · intro y3 s7 k
    refine Ex.seg hq 1 (j := 32) (L' := [pu, pu, pu, .int y3, pu]) (S' := [.int y3]) (h' := hpS s7) rfl ?_
    exact Ex.rt hq rfl rfl ⟨y3, s7, rfl, rfl, k⟩
def w_112_L2 : Nat → Int32 → ST → (ST → Prop) → (ST → Prop) → Prop
  | 0, _, _, _, _ => False
  | n + 1, x1, s, X28, K => (((s.1 102) ≤ x1 → X28  s) ∧ (¬ ((s.1 102) ≤ x1) → w_9 x1 (9 : Int32) s (fun r2 s1 => (((s1.1 800) < r2 → (pin x1 150 = true ∧ w_112_L2 n (x1 + (1 : Int32)) (sA s1 9 (upd (s1.2.1 9) (x1).toNatClampNeg (0 : Int32))) X28 K)) ∧ (¬ ((s1.1 800) < r2) → w_9 x1 (5 : Int32) s1 (fun r4 s3 => (pin x1 150 = true ∧ w_112_L2 n (x1 + (1 : Int32)) (sA s3 9 (upd (s3.2.1 9) (x1).toNatClampNeg r4)) X28 K)))))))
theorem q_112_L2 {d : Nat} {X28 : ST → Prop} {K : ST → Prop} : ∀ (n : Nat) (x1 : Int32) (s : ST), w_112_L2 n x1 s X28 K → (∀ (s : ST), X28  s → Ex sc (d + 1) 112 28 [.ref 8, pu, pu] [] (hpS s) (kV K)) → Ex sc (d + 1) 112 2 [.ref 8, .int x1, pu] [] (hpS s) (kV K) := by
  have hq : prog[112]? = some pm112 := rfl
  intro n
  induction n with
  | zero =>
    intro x1 s k
    exact k.elim
  | succ n ih =>
    intro x1 s k hX28
    rw [w_112_L2] at k
    refine Ex.seg hq 4 (j := 6) (L' := [.ref 8, .int x1, pu]) (S' := [.int (s.1 102), .int x1]) (h' := hpS s) rfl ?_
    refine Ex.i2 hq rfl (fun c => ?_) (fun c => ?_)
    · have k := k.1 c
      refine Ex.fg (L := [.ref 8, pu, pu]) ⟨Or.inl rfl, ⟨Or.inr ⟨rfl, rfl⟩, ⟨Or.inl rfl, trivial⟩⟩⟩ ?_
      exact hX28  s k
    · have k := k.2 c
      refine Ex.seg hq 7 (j := 14) (L' := [.ref 8, .int x1, pu]) (S' := [.int (9 : Int32), .int x1, .ref 1, .int x1, .ref 9]) (h' := hpS s) rfl ?_
      refine Ex.cl hq rfl rfl ?_
      refine Rn.mono (q_9 (d := d + 0) x1 (9 : Int32) s k) ?_
      rintro _ _ ⟨r2, s1, rfl, rfl, k⟩
      show Ex sc (d + 1) 112 15 [.ref 8, .int x1, pu] [.int r2, .int x1, .ref 9] (hpS s1) _
      refine Ex.seg hq 2 (j := 17) (L' := [.ref 8, .int x1, pu]) (S' := [.int (s1.1 800), .int r2, .int x1, .ref 9]) (h' := hpS s1) rfl ?_
      refine Ex.i2 hq rfl (fun c => ?_) (fun c => ?_)
      · have k := k.1 c
        refine Ex.seg hq 1 (j := 25) (L' := [.ref 8, .int x1, pu]) (S' := [.int (0 : Int32), .int x1, .ref 9]) (h' := hpS s1) rfl ?_
        obtain ⟨hin, k⟩ := k
        refine Ex.ias hq rfl rfl hin (h' := hpS (sA s1 9 (upd (s1.2.1 9) (x1).toNatClampNeg (0 : Int32)))) (hset_9 _ _) ?_
        refine Ex.seg hq 2 (j := 2) (L' := [.ref 8, .int (x1 + (1 : Int32)), pu]) (S' := []) (h' := hpS (sA s1 9 (upd (s1.2.1 9) (x1).toNatClampNeg (0 : Int32)))) rfl ?_
        exact ih (x1 + (1 : Int32)) (sA s1 9 (upd (s1.2.1 9) (x1).toNatClampNeg (0 : Int32))) k hX28
      · have k := k.2 c
        refine Ex.seg hq 4 (j := 22) (L' := [.ref 8, .int x1, pu]) (S' := [.int (5 : Int32), .int x1, .ref 1, .int x1, .ref 9]) (h' := hpS s1) rfl ?_
        refine Ex.cl hq rfl rfl ?_
        refine Rn.mono (q_9 (d := d + 0) x1 (5 : Int32) s1 k) ?_
        rintro _ _ ⟨r4, s3, rfl, rfl, k⟩
        show Ex sc (d + 1) 112 23 [.ref 8, .int x1, pu] [.int r4, .int x1, .ref 9] (hpS s3) _
        refine Ex.seg hq 1 (j := 25) (L' := [.ref 8, .int x1, pu]) (S' := [.int r4, .int x1, .ref 9]) (h' := hpS s3) rfl ?_
        obtain ⟨hin, k⟩ := k
        refine Ex.ias hq rfl rfl hin (h' := hpS (sA s3 9 (upd (s3.2.1 9) (x1).toNatClampNeg r4))) (hset_9 _ _) ?_
        refine Ex.seg hq 2 (j := 2) (L' := [.ref 8, .int (x1 + (1 : Int32)), pu]) (S' := []) (h' := hpS (sA s3 9 (upd (s3.2.1 9) (x1).toNatClampNeg r4))) rfl ?_
        exact ih (x1 + (1 : Int32)) (sA s3 9 (upd (s3.2.1 9) (x1).toNatClampNeg r4)) k hX28
def w_112_L30 : Nat → Int32 → ST → (ST → Prop) → (ST → Prop) → Prop
  | 0, _, _, _, _ => False
  | n + 1, x1, s, X62, K => (((s.1 103) ≤ x1 → X62  s) ∧ (¬ ((s.1 103) ≤ x1) → w_14 x1 s (fun r7 s6 => (((s6.1 800) < r7 → X62  s6) ∧ (¬ ((s6.1 800) < r7) → w_12 x1 s6 (fun r9 s8 => w_2 r9 s8 (fun r11 s10 => ((r11 = 0 → w_112_L30 n (x1 + (1 : Int32)) s10 X62 K) ∧ (¬ (r11 = 0) → w_13 x1 s10 (fun r13 s12 => (pin r9 150 = true ∧ w_112_L30 n (x1 + (1 : Int32)) (sA s12 9 (upd (s12.2.1 9) (r9).toNatClampNeg r13)) X62 K)))))))))))
theorem q_112_L30 {d : Nat} {X62 : ST → Prop} {K : ST → Prop} : ∀ (n : Nat) (x1 : Int32) (s : ST), w_112_L30 n x1 s X62 K → (∀ (s : ST), X62  s → Ex sc (d + 1) 112 62 [pu, pu, pu] [] (hpS s) (kV K)) → Ex sc (d + 1) 112 30 [.ref 8, .int x1, pu] [] (hpS s) (kV K) := by
  have hq : prog[112]? = some pm112 := rfl
  intro n
  induction n with
  | zero =>
    intro x1 s k
    exact k.elim
  | succ n ih =>
    intro x1 s k hX62
    rw [w_112_L30] at k
    refine Ex.seg hq 4 (j := 34) (L' := [.ref 8, .int x1, pu]) (S' := [.int (s.1 103), .int x1]) (h' := hpS s) rfl ?_
    refine Ex.i2 hq rfl (fun c => ?_) (fun c => ?_)
    · have k := k.1 c
      refine Ex.fg (L := [pu, pu, pu]) ⟨Or.inr ⟨rfl, rfl⟩, ⟨Or.inr ⟨rfl, rfl⟩, ⟨Or.inl rfl, trivial⟩⟩⟩ ?_
      exact hX62  s k
    · have k := k.2 c
      refine Ex.seg hq 3 (j := 38) (L' := [.ref 8, .int x1, pu]) (S' := [.int x1, .ref 1]) (h' := hpS s) rfl ?_
      refine Ex.cl hq rfl rfl ?_
      refine Rn.mono (q_14 (d := d + 0) x1 s k) ?_
      rintro _ _ ⟨r7, s6, rfl, rfl, k⟩
      show Ex sc (d + 1) 112 39 [.ref 8, .int x1, pu] [.int r7] (hpS s6) _
      refine Ex.seg hq 2 (j := 41) (L' := [.ref 8, .int x1, pu]) (S' := [.int (s6.1 800), .int r7]) (h' := hpS s6) rfl ?_
      refine Ex.i2 hq rfl (fun c => ?_) (fun c => ?_)
      · have k := k.1 c
        refine Ex.fg (L := [pu, pu, pu]) ⟨Or.inr ⟨rfl, rfl⟩, ⟨Or.inr ⟨rfl, rfl⟩, ⟨Or.inl rfl, trivial⟩⟩⟩ ?_
        exact hX62  s6 k
      · have k := k.2 c
        refine Ex.seg hq 3 (j := 45) (L' := [.ref 8, .int x1, pu]) (S' := [.int x1, .ref 1]) (h' := hpS s6) rfl ?_
        refine Ex.cl hq rfl rfl ?_
        refine Rn.mono (q_12 (d := d + 0) x1 s6 k) ?_
        rintro _ _ ⟨r9, s8, rfl, rfl, k⟩
        show Ex sc (d + 1) 112 46 [.ref 8, .int x1, pu] [.int r9] (hpS s8) _
        refine Ex.seg hq 4 (j := 50) (L' := [.ref 8, .int x1, .int r9]) (S' := [.int r9, .ref 1]) (h' := hpS s8) rfl ?_
        refine Ex.cl hq rfl rfl ?_
        refine Rn.mono (q_2 (d := d + 0) r9 s8 k) ?_
        rintro _ _ ⟨r11, s10, rfl, hzr11, rfl, k⟩
        show Ex sc (d + 1) 112 51 [.ref 8, .int x1, .int r9] [.int r11] (hpS s10) _
        refine Ex.i1 hq rfl (fun c => ?_) (fun c => ?_)
        · have k := k.1 c
          refine Ex.seg hq 2 (j := 30) (L' := [.ref 8, .int (x1 + (1 : Int32)), .int r9]) (S' := []) (h' := hpS s10) rfl ?_
          refine Ex.fg (L := [.ref 8, .int (x1 + (1 : Int32)), pu]) ⟨Or.inl rfl, ⟨Or.inl rfl, ⟨Or.inr ⟨rfl, rfl⟩, trivial⟩⟩⟩ ?_
          exact ih (x1 + (1 : Int32)) s10 k hX62
        · have k := k.2 c
          refine Ex.seg hq 6 (j := 58) (L' := [.ref 8, .int x1, .int r9]) (S' := [.int x1, .ref 1, .int r9, .ref 9]) (h' := hpS s10) rfl ?_
          refine Ex.cl hq rfl rfl ?_
          refine Rn.mono (q_13 (d := d + 0) x1 s10 k) ?_
          rintro _ _ ⟨r13, s12, rfl, rfl, k⟩
          show Ex sc (d + 1) 112 59 [.ref 8, .int x1, .int r9] [.int r13, .int r9, .ref 9] (hpS s12) _
          obtain ⟨hin, k⟩ := k
          refine Ex.ias hq rfl rfl hin (h' := hpS (sA s12 9 (upd (s12.2.1 9) (r9).toNatClampNeg r13))) (hset_9 _ _) ?_
          refine Ex.seg hq 2 (j := 30) (L' := [.ref 8, .int (x1 + (1 : Int32)), .int r9]) (S' := []) (h' := hpS (sA s12 9 (upd (s12.2.1 9) (r9).toNatClampNeg r13))) rfl ?_
          refine Ex.fg (L := [.ref 8, .int (x1 + (1 : Int32)), pu]) ⟨Or.inl rfl, ⟨Or.inl rfl, ⟨Or.inr ⟨rfl, rfl⟩, trivial⟩⟩⟩ ?_
          exact ih (x1 + (1 : Int32)) (sA s12 9 (upd (s12.2.1 9) (r9).toNatClampNeg r13)) k hX62
/-- RowAuditor$View.readSums()V -/
def w_112  (s : ST) (K : ST → Prop) : Prop := (∃ m, w_112_L2 m (0 : Int32) s (fun s5 => (∃ m, w_112_L30 m (0 : Int32) s5 (fun s14 => K s14) K)) K)
theorem q_112 {d : Nat} {K : ST → Prop}  (s : ST) (k : w_112  s K) : Rn sc (d + 1) 112 [.ref 8] (hpS s) (kV K) := by
  have hq : prog[112]? = some pm112 := rfl
  refine Rn.of (L := [.ref 8, pu, pu]) hq rfl rfl ?_
  unfold w_112 at k
  refine Ex.seg hq 2 (j := 2) (L' := [.ref 8, .int (0 : Int32), pu]) (S' := []) (h' := hpS s) rfl ?_
  obtain ⟨m, k⟩ := k
  refine q_112_L2 (d := d) m (0 : Int32) s k ?_
  · intro s5 k
    refine Ex.seg hq 2 (j := 30) (L' := [.ref 8, .int (0 : Int32), pu]) (S' := []) (h' := hpS s5) rfl ?_
    obtain ⟨m, k⟩ := k
    refine q_112_L30 (d := d) m (0 : Int32) s5 k ?_
    · intro s14 k
      exact Ex.rt hq rfl rfl ⟨s14, rfl, rfl, k⟩
end WP
