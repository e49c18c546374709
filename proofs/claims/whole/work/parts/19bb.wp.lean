/-! ===== weakest preconditions, printed by wip/whole/genwp.py ===== -/
section WP
variable {sc : Nat × (Nat → Int32)}
def w_277_L2 : Nat → Int32 → Int32 → ST → (ST → Prop) → (ST → Prop) → (Int32 → ST → Prop) → Prop
  | 0, _, _, _, _, _, _ => False
  | n + 1, x1, x2, s, X32, X28, K => (((s.1 5579) ≤ x2 → X32  s) ∧ (¬ ((s.1 5579) ≤ x2) → ((¬ ((x1 >>> (x2 &&& 31)) &&& (1 : Int32)) = (1 : Int32) → w_277_L2 n x1 (x2 + (1 : Int32)) s X32 X28 K) ∧ (¬ (¬ ((x1 >>> (x2 &&& 31)) &&& (1 : Int32)) = (1 : Int32)) → (pin x2 9 = true ∧ ((((s.2.1 117) (x2).toNatClampNeg) = (-1 : Int32) → w_277_L2 n x1 (x2 + (1 : Int32)) s X32 X28 K) ∧ (¬ (((s.2.1 117) (x2).toNatClampNeg) = (-1 : Int32)) → (pin x2 9 = true ∧ ((¬ ((x1 >>> (((s.2.1 117) (x2).toNatClampNeg) &&& 31)) &&& (1 : Int32)) = 0 → w_277_L2 n x1 (x2 + (1 : Int32)) s X32 X28 K) ∧ (¬ (¬ ((x1 >>> (((s.2.1 117) (x2).toNatClampNeg) &&& 31)) &&& (1 : Int32)) = 0) → X28  s))))))))))
theorem q_277_L2 {d : Nat} {X32 : ST → Prop} {X28 : ST → Prop} {K : Int32 → ST → Prop} : ∀ (n : Nat) (x1 : Int32) (x2 : Int32) (s : ST), w_277_L2 n x1 x2 s X32 X28 K → (∀ (s : ST), X32  s → Ex sc (d + 0) 277 32 [pu, pu, pu] [] (hpS s) (kZ K)) → (∀ (s : ST), X28  s → Ex sc (d + 0) 277 28 [pu, pu, pu] [] (hpS s) (kZ K)) → Ex sc (d + 0) 277 2 [.ref 55, .int x1, .int x2] [] (hpS s) (kZ K) := by
  have hq : prog[277]? = some pm277 := rfl
  intro n
  induction n with
  | zero =>
    intro x1 x2 s k
    exact k.elim
  | succ n ih =>
    intro x1 x2 s k hX32 hX28
    rw [w_277_L2] at k
    refine Ex.seg hq 3 (j := 5) (L' := [.ref 55, .int x1, .int x2]) (S' := [.int (s.1 5579), .int x2]) (h' := hpS s) rfl ?_
    refine Ex.i2 hq rfl (fun c => ?_) (fun c => ?_)
    · have k := k.1 c
      refine Ex.fg (L := [pu, pu, pu]) ⟨Or.inr ⟨rfl, rfl⟩, ⟨Or.inr ⟨rfl, rfl⟩, ⟨Or.inr ⟨rfl, rfl⟩, trivial⟩⟩⟩ ?_
      exact hX32  s k
    · have k := k.2 c
      refine Ex.seg hq 6 (j := 12) (L' := [.ref 55, .int x1, .int x2]) (S' := [.int (1 : Int32), .int ((x1 >>> (x2 &&& 31)) &&& (1 : Int32))]) (h' := hpS s) rfl ?_
      refine Ex.i2 hq rfl (fun c => ?_) (fun c => ?_)
      · have k := k.1 c
        refine Ex.seg hq 2 (j := 2) (L' := [.ref 55, .int x1, .int (x2 + (1 : Int32))]) (S' := []) (h' := hpS s) rfl ?_
        exact ih x1 (x2 + (1 : Int32)) s k hX32 hX28
      · have k := k.2 c
        refine Ex.seg hq 3 (j := 16) (L' := [.ref 55, .int x1, .int x2]) (S' := [.int x2, .ref 117]) (h' := hpS s) rfl ?_
        obtain ⟨hin, k⟩ := k
        refine Ex.ial hq rfl rfl hin ?_
        refine Ex.seg hq 1 (j := 18) (L' := [.ref 55, .int x1, .int x2]) (S' := [.int (-1 : Int32), .int ((s.2.1 117) (x2).toNatClampNeg)]) (h' := hpS s) rfl ?_
        refine Ex.i2 hq rfl (fun c => ?_) (fun c => ?_)
        · have k := k.1 c
          refine Ex.seg hq 2 (j := 2) (L' := [.ref 55, .int x1, .int (x2 + (1 : Int32))]) (S' := []) (h' := hpS s) rfl ?_
          exact ih x1 (x2 + (1 : Int32)) s k hX32 hX28
        · have k := k.2 c
          refine Ex.seg hq 4 (j := 23) (L' := [.ref 55, .int x1, .int x2]) (S' := [.int x2, .ref 117, .int x1]) (h' := hpS s) rfl ?_
          obtain ⟨hin, k⟩ := k
          refine Ex.ial hq rfl rfl hin ?_
          refine Ex.seg hq 3 (j := 27) (L' := [.ref 55, .int x1, .int x2]) (S' := [.int ((x1 >>> (((s.2.1 117) (x2).toNatClampNeg) &&& 31)) &&& (1 : Int32))]) (h' := hpS s) rfl ?_
          refine Ex.i1 hq rfl (fun c => ?_) (fun c => ?_)
          · have k := k.1 c
            refine Ex.seg hq 2 (j := 2) (L' := [.ref 55, .int x1, .int (x2 + (1 : Int32))]) (S' := []) (h' := hpS s) rfl ?_
            exact ih x1 (x2 + (1 : Int32)) s k hX32 hX28
          · have k := k.2 c
            refine Ex.fg (L := [pu, pu, pu]) ⟨Or.inr ⟨rfl, rfl⟩, ⟨Or.inr ⟨rfl, rfl⟩, ⟨Or.inr ⟨rfl, rfl⟩, trivial⟩⟩⟩ ?_
            exact hX28  s k
/-- RowAuditorModel.isWhole(I)Z -/
def w_277 (p1 : Int32) (s : ST) (K : Int32 → ST → Prop) : Prop := (∃ m, w_277_L2 m p1 (0 : Int32) s (fun s1 => K (1 : Int32) s1) (fun s2 => K (0 : Int32) s2) K)
theorem q_277 {d : Nat} {K : Int32 → ST → Prop} (p1 : Int32) (s : ST) (k : w_277 p1 s K) : Rn sc (d + 0) 277 [.ref 55, .int p1] (hpS s) (kZ K) := by
  have hq : prog[277]? = some pm277 := rfl
  refine Rn.of (L := [.ref 55, .int p1, pu]) hq rfl rfl ?_
  unfold w_277 at k
  refine Ex.seg hq 2 (j := 2) (L' := [.ref 55, .int p1, .int (0 : Int32)]) (S' := []) (h' := hpS s) rfl ?_
  obtain ⟨m, k⟩ := k
  refine q_277_L2 (d := d) m p1 (0 : Int32) s k ?_ ?_
  · intro s1 k
    refine Ex.seg hq 1 (j := 33) (L' := [pu, pu, pu]) (S' := [.int (1 : Int32)]) (h' := hpS s1) rfl ?_
    exact Ex.zr hq rfl rfl (Or.inr rfl) ⟨(1 : Int32), s1, rfl, (Or.inr rfl), rfl, k⟩
  · intro s2 k
    refine Ex.seg hq 1 (j := 29) (L' := [pu, pu, pu]) (S' := [.int (0 : Int32)]) (h' := hpS s2) rfl ?_
    exact Ex.zr hq rfl rfl (Or.inl rfl) ⟨(0 : Int32), s2, rfl, (Or.inl rfl), rfl, k⟩
def w_278_L4 : Nat → Int32 → Int32 → Int32 → Int32 → ST → (Int32 → ST → Prop) → (Int32 → ST → Prop) → Prop
  | 0, _, _, _, _, _, _, _ => False
  | n + 1, x1, x2, x3, x4, s, X32, K => (((s.1 5579) ≤ x4 → X32 x3 s) ∧ (¬ ((s.1 5579) ≤ x4) → ((¬ ((x1 >>> (x4 &&& 31)) &&& (1 : Int32)) = 0 → ((x2 = 0 → (pin x4 9 = true ∧ w_278_L4 n x1 x2 (x3 + ((s.2.1 116) (x4).toNatClampNeg)) (x4 + (1 : Int32)) s X32 K)) ∧ (¬ (x2 = 0) → (pin x4 9 = true ∧ w_278_L4 n x1 x2 (x3 + ((s.2.1 115) (x4).toNatClampNeg)) (x4 + (1 : Int32)) s X32 K)))) ∧ (¬ (¬ ((x1 >>> (x4 &&& 31)) &&& (1 : Int32)) = 0) → w_278_L4 n x1 x2 (x3 + (0 : Int32)) (x4 + (1 : Int32)) s X32 K))))
theorem q_278_L4 {d : Nat} {X32 : Int32 → ST → Prop} {K : Int32 → ST → Prop} : ∀ (n : Nat) (x1 : Int32) (x2 : Int32) (x3 : Int32) (x4 : Int32) (s : ST), w_278_L4 n x1 x2 x3 x4 s X32 K → (∀ (y3 : Int32) (s : ST), X32 y3 s → Ex sc (d + 0) 278 32 [pu, pu, pu, .int y3, pu] [] (hpS s) (kI K)) → Ex sc (d + 0) 278 4 [.ref 55, .int x1, .int x2, .int x3, .int x4] [] (hpS s) (kI K) := by
  have hq : prog[278]? = some pm278 := rfl
  intro n
  induction n with
  | zero =>
    intro x1 x2 x3 x4 s k
    exact k.elim
  | succ n ih =>
    intro x1 x2 x3 x4 s k hX32
    rw [w_278_L4] at k
    refine Ex.seg hq 3 (j := 7) (L' := [.ref 55, .int x1, .int x2, .int x3, .int x4]) (S' := [.int (s.1 5579), .int x4]) (h' := hpS s) rfl ?_
    refine Ex.i2 hq rfl (fun c => ?_) (fun c => ?_)
    · have k := k.1 c
      refine Ex.fg (L := [pu, pu, pu, .int x3, pu]) ⟨Or.inr ⟨rfl, rfl⟩, ⟨Or.inr ⟨rfl, rfl⟩, ⟨Or.inr ⟨rfl, rfl⟩, ⟨Or.inl rfl, ⟨Or.inr ⟨rfl, rfl⟩, trivial⟩⟩⟩⟩⟩ ?_
      exact hX32 x3 s k
    · have k := k.2 c
      refine Ex.seg hq 6 (j := 14) (L' := [.ref 55, .int x1, .int x2, .int x3, .int x4]) (S' := [.int ((x1 >>> (x4 &&& 31)) &&& (1 : Int32)), .int x3]) (h' := hpS s) rfl ?_
      refine Ex.i1 hq rfl (fun c => ?_) (fun c => ?_)
      · have k := k.1 c
        refine Ex.seg hq 1 (j := 18) (L' := [.ref 55, .int x1, .int x2, .int x3, .int x4]) (S' := [.int x2, .int x3]) (h' := hpS s) rfl ?_
        refine Ex.i1 hq rfl (fun c => ?_) (fun c => ?_)
        · have k := k.1 c
          refine Ex.seg hq 3 (j := 27) (L' := [.ref 55, .int x1, .int x2, .int x3, .int x4]) (S' := [.int x4, .ref 116, .int x3]) (h' := hpS s) rfl ?_
          obtain ⟨hin, k⟩ := k
          refine Ex.ial hq rfl rfl hin ?_
          refine Ex.seg hq 4 (j := 4) (L' := [.ref 55, .int x1, .int x2, .int (x3 + ((s.2.1 116) (x4).toNatClampNeg)), .int (x4 + (1 : Int32))]) (S' := []) (h' := hpS s) rfl ?_
          exact ih x1 x2 (x3 + ((s.2.1 116) (x4).toNatClampNeg)) (x4 + (1 : Int32)) s k hX32
        · have k := k.2 c
          refine Ex.seg hq 3 (j := 22) (L' := [.ref 55, .int x1, .int x2, .int x3, .int x4]) (S' := [.int x4, .ref 115, .int x3]) (h' := hpS s) rfl ?_
          obtain ⟨hin, k⟩ := k
          refine Ex.ial hq rfl rfl hin ?_
          refine Ex.seg hq 5 (j := 4) (L' := [.ref 55, .int x1, .int x2, .int (x3 + ((s.2.1 115) (x4).toNatClampNeg)), .int (x4 + (1 : Int32))]) (S' := []) (h' := hpS s) rfl ?_
          exact ih x1 x2 (x3 + ((s.2.1 115) (x4).toNatClampNeg)) (x4 + (1 : Int32)) s k hX32
      · have k := k.2 c
        refine Ex.seg hq 6 (j := 4) (L' := [.ref 55, .int x1, .int x2, .int (x3 + (0 : Int32)), .int (x4 + (1 : Int32))]) (S' := []) (h' := hpS s) rfl ?_
        exact ih x1 x2 (x3 + (0 : Int32)) (x4 + (1 : Int32)) s k hX32
/-- RowAuditorModel.together(IZ)I -/
def w_278 (p1 : Int32) (p2 : Int32) (s : ST) (K : Int32 → ST → Prop) : Prop := (∃ m, w_278_L4 m p1 p2 (0 : Int32) (0 : Int32) s (fun y3 s1 => K y3 s1) K)
theorem q_278 {d : Nat} {K : Int32 → ST → Prop} (p1 : Int32) (p2 : Int32) (s : ST) (k : w_278 p1 p2 s K) : Rn sc (d + 0) 278 [.ref 55, .int p1, .int p2] (hpS s) (kI K) := by
  have hq : prog[278]? = some pm278 := rfl
  refine Rn.of (L := [.ref 55, .int p1, .int p2, pu, pu]) hq rfl rfl ?_
  unfold w_278 at k
  refine Ex.seg hq 4 (j := 4) (L' := [.ref 55, .int p1, .int p2, .int (0 : Int32), .int (0 : Int32)]) (S' := []) (h' := hpS s) rfl ?_
  obtain ⟨m, k⟩ := k
  refine q_278_L4 (d := d) m p1 p2 (0 : Int32) (0 : Int32) s k ?_
  · intro y3 s1 k
    refine Ex.seg hq 1 (j := 33) (L' := [pu, pu, pu, .int y3, pu]) (S' := [.int y3]) (h' := hpS s1) rfl ?_
    exact Ex.rt hq rfl rfl ⟨y3, s1, rfl, rfl, k⟩
def w_279_L11 : Nat → Int32 → Int32 → Int32 → ST → (Int32 → ST → Prop) → (Int32 → ST → Prop) → Prop
  | 0, _, _, _, _, _, _ => False
  | n + 1, x1, x2, x3, s, X55, K => ((((1 : Int32) <<< ((s.1 5579) &&& 31)) ≤ x3 → X55 x2 s) ∧ (¬ (((1 : Int32) <<< ((s.1 5579) &&& 31)) ≤ x3) → w_277 x3 s (fun r4 s3 => ((r4 = 0 → w_279_L11 n x1 x2 (x3 + (1 : Int32)) s3 X55 K) ∧ (¬ (r4 = 0) → w_278 x3 (1 : Int32) s3 (fun r6 s5 => ((r6 ≤ x1 → w_278 x3 (0 : Int32) s5 (fun r8 s7 => w_278 x2 (0 : Int32) s7 (fun r10 s9 => ((0 < (r8 - r10) → w_279_L11 n x1 x3 (x3 + (1 : Int32)) s9 X55 K) ∧ (¬ (0 < (r8 - r10)) → ((¬ (r8 - r10) = 0 → w_279_L11 n x1 x2 (x3 + (1 : Int32)) s9 X55 K) ∧ (¬ (¬ (r8 - r10) = 0) → w_278 x3 (1 : Int32) s9 (fun r12 s11 => w_278 x2 (1 : Int32) s11 (fun r14 s13 => ((r14 ≤ r12 → w_279_L11 n x1 x2 (x3 + (1 : Int32)) s13 X55 K) ∧ (¬ (r14 ≤ r12) → w_279_L11 n x1 x3 (x3 + (1 : Int32)) s13 X55 K))))))))))) ∧ (¬ (r6 ≤ x1) → w_279_L11 n x1 x2 (x3 + (1 : Int32)) s5 X55 K))))))))
theorem q_279_L11 {d : Nat} {X55 : Int32 → ST → Prop} {K : Int32 → ST → Prop} : ∀ (n : Nat) (x1 : Int32) (x2 : Int32) (x3 : Int32) (s : ST), w_279_L11 n x1 x2 x3 s X55 K → (∀ (y2 : Int32) (s : ST), X55 y2 s → Ex sc (d + 1) 279 55 [pu, pu, .int y2, pu, pu] [] (hpS s) (kI K)) → Ex sc (d + 1) 279 11 [.ref 55, .int x1, .int x2, .int x3, pu] [] (hpS s) (kI K) := by
  have hq : prog[279]? = some pm279 := rfl
  intro n
  induction n with
  | zero =>
    intro x1 x2 x3 s k
    exact k.elim
  | succ n ih =>
    intro x1 x2 x3 s k hX55
    rw [w_279_L11] at k
    refine Ex.seg hq 5 (j := 16) (L' := [.ref 55, .int x1, .int x2, .int x3, pu]) (S' := [.int ((1 : Int32) <<< ((s.1 5579) &&& 31)), .int x3]) (h' := hpS s) rfl ?_
    refine Ex.i2 hq rfl (fun c => ?_) (fun c => ?_)
    · have k := k.1 c
      refine Ex.fg (L := [pu, pu, .int x2, pu, pu]) ⟨Or.inr ⟨rfl, rfl⟩, ⟨Or.inr ⟨rfl, rfl⟩, ⟨Or.inl rfl, ⟨Or.inr ⟨rfl, rfl⟩, ⟨Or.inl rfl, trivial⟩⟩⟩⟩⟩ ?_
      exact hX55 x2 s k
    · have k := k.2 c
      refine Ex.seg hq 2 (j := 19) (L' := [.ref 55, .int x1, .int x2, .int x3, pu]) (S' := [.int x3, .ref 55]) (h' := hpS s) rfl ?_
      refine Ex.cl hq rfl rfl ?_
      refine Rn.mono (q_277 (d := d + 0) x3 s k) ?_
      rintro _ _ ⟨r4, s3, rfl, hzr4, rfl, k⟩
      show Ex sc (d + 1) 279 20 [.ref 55, .int x1, .int x2, .int x3, pu] [.int r4] (hpS s3) _
      refine Ex.i1 hq rfl (fun c => ?_) (fun c => ?_)
      · have k := k.1 c
        refine Ex.seg hq 2 (j := 11) (L' := [.ref 55, .int x1, .int x2, .int (x3 + (1 : Int32)), pu]) (S' := []) (h' := hpS s3) rfl ?_
        exact ih x1 x2 (x3 + (1 : Int32)) s3 k hX55
      · have k := k.2 c
        refine Ex.seg hq 3 (j := 24) (L' := [.ref 55, .int x1, .int x2, .int x3, pu]) (S' := [.int (1 : Int32), .int x3, .ref 55]) (h' := hpS s3) rfl ?_
        refine Ex.cl hq rfl rfl ?_
        refine Rn.mono (q_278 (d := d + 0) x3 (1 : Int32) s3 k) ?_
        rintro _ _ ⟨r6, s5, rfl, rfl, k⟩
        show Ex sc (d + 1) 279 25 [.ref 55, .int x1, .int x2, .int x3, pu] [.int r6] (hpS s5) _
        refine Ex.seg hq 1 (j := 26) (L' := [.ref 55, .int x1, .int x2, .int x3, pu]) (S' := [.int x1, .int r6]) (h' := hpS s5) rfl ?_
        refine Ex.i2 hq rfl (fun c => ?_) (fun c => ?_)
        · have k := k.1 c
          refine Ex.seg hq 3 (j := 31) (L' := [.ref 55, .int x1, .int x2, .int x3, pu]) (S' := [.int (0 : Int32), .int x3, .ref 55]) (h' := hpS s5) rfl ?_
          refine Ex.cl hq rfl rfl ?_
          refine Rn.mono (q_278 (d := d + 0) x3 (0 : Int32) s5 k) ?_
          rintro _ _ ⟨r8, s7, rfl, rfl, k⟩
          show Ex sc (d + 1) 279 32 [.ref 55, .int x1, .int x2, .int x3, pu] [.int r8] (hpS s7) _
          refine Ex.seg hq 3 (j := 35) (L' := [.ref 55, .int x1, .int x2, .int x3, pu]) (S' := [.int (0 : Int32), .int x2, .ref 55, .int r8]) (h' := hpS s7) rfl ?_
          refine Ex.cl hq rfl rfl ?_
          refine Rn.mono (q_278 (d := d + 0) x2 (0 : Int32) s7 k) ?_
          rintro _ _ ⟨r10, s9, rfl, rfl, k⟩
          show Ex sc (d + 1) 279 36 [.ref 55, .int x1, .int x2, .int x3, pu] [.int r10, .int r8] (hpS s9) _
          refine Ex.seg hq 3 (j := 39) (L' := [.ref 55, .int x1, .int x2, .int x3, .int (r8 - r10)]) (S' := [.int (r8 - r10)]) (h' := hpS s9) rfl ?_
          refine Ex.i1 hq rfl (fun c => ?_) (fun c => ?_)
          · have k := k.1 c
            refine Ex.seg hq 4 (j := 11) (L' := [.ref 55, .int x1, .int x3, .int (x3 + (1 : Int32)), .int (r8 - r10)]) (S' := []) (h' := hpS s9) rfl ?_
            refine Ex.fg (L := [.ref 55, .int x1, .int x3, .int (x3 + (1 : Int32)), pu]) ⟨Or.inl rfl, ⟨Or.inl rfl, ⟨Or.inl rfl, ⟨Or.inl rfl, ⟨Or.inr ⟨rfl, rfl⟩, trivial⟩⟩⟩⟩⟩ ?_
            exact ih x1 x3 (x3 + (1 : Int32)) s9 k hX55
          · have k := k.2 c
            refine Ex.seg hq 1 (j := 41) (L' := [.ref 55, .int x1, .int x2, .int x3, .int (r8 - r10)]) (S' := [.int (r8 - r10)]) (h' := hpS s9) rfl ?_
            refine Ex.i1 hq rfl (fun c => ?_) (fun c => ?_)
            · have k := k.1 c
              refine Ex.seg hq 2 (j := 11) (L' := [.ref 55, .int x1, .int x2, .int (x3 + (1 : Int32)), .int (r8 - r10)]) (S' := []) (h' := hpS s9) rfl ?_
              refine Ex.fg (L := [.ref 55, .int x1, .int x2, .int (x3 + (1 : Int32)), pu]) ⟨Or.inl rfl, ⟨Or.inl rfl, ⟨Or.inl rfl, ⟨Or.inl rfl, ⟨Or.inr ⟨rfl, rfl⟩, trivial⟩⟩⟩⟩⟩ ?_
              exact ih x1 x2 (x3 + (1 : Int32)) s9 k hX55
            · have k := k.2 c
              refine Ex.seg hq 3 (j := 45) (L' := [.ref 55, .int x1, .int x2, .int x3, .int (r8 - r10)]) (S' := [.int (1 : Int32), .int x3, .ref 55]) (h' := hpS s9) rfl ?_
              refine Ex.cl hq rfl rfl ?_
              refine Rn.mono (q_278 (d := d + 0) x3 (1 : Int32) s9 k) ?_
              rintro _ _ ⟨r12, s11, rfl, rfl, k⟩
              show Ex sc (d + 1) 279 46 [.ref 55, .int x1, .int x2, .int x3, .int (r8 - r10)] [.int r12] (hpS s11) _
              refine Ex.seg hq 3 (j := 49) (L' := [.ref 55, .int x1, .int x2, .int x3, .int (r8 - r10)]) (S' := [.int (1 : Int32), .int x2, .ref 55, .int r12]) (h' := hpS s11) rfl ?_
              refine Ex.cl hq rfl rfl ?_
              refine Rn.mono (q_278 (d := d + 0) x2 (1 : Int32) s11 k) ?_
              rintro _ _ ⟨r14, s13, rfl, rfl, k⟩
              show Ex sc (d + 1) 279 50 [.ref 55, .int x1, .int x2, .int x3, .int (r8 - r10)] [.int r14, .int r12] (hpS s13) _
              refine Ex.i2 hq rfl (fun c => ?_) (fun c => ?_)
              · have k := k.1 c
                refine Ex.seg hq 2 (j := 11) (L' := [.ref 55, .int x1, .int x2, .int (x3 + (1 : Int32)), .int (r8 - r10)]) (S' := []) (h' := hpS s13) rfl ?_
                refine Ex.fg (L := [.ref 55, .int x1, .int x2, .int (x3 + (1 : Int32)), pu]) ⟨Or.inl rfl, ⟨Or.inl rfl, ⟨Or.inl rfl, ⟨Or.inl rfl, ⟨Or.inr ⟨rfl, rfl⟩, trivial⟩⟩⟩⟩⟩ ?_
                exact ih x1 x2 (x3 + (1 : Int32)) s13 k hX55
              · have k := k.2 c
                refine Ex.seg hq 4 (j := 11) (L' := [.ref 55, .int x1, .int x3, .int (x3 + (1 : Int32)), .int (r8 - r10)]) (S' := []) (h' := hpS s13) rfl ?_
                refine Ex.fg (L := [.ref 55, .int x1, .int x3, .int (x3 + (1 : Int32)), pu]) ⟨Or.inl rfl, ⟨Or.inl rfl, ⟨Or.inl rfl, ⟨Or.inl rfl, ⟨Or.inr ⟨rfl, rfl⟩, trivial⟩⟩⟩⟩⟩ ?_
                exact ih x1 x3 (x3 + (1 : Int32)) s13 k hX55
        · have k := k.2 c
          refine Ex.seg hq 3 (j := 11) (L' := [.ref 55, .int x1, .int x2, .int (x3 + (1 : Int32)), pu]) (S' := []) (h' := hpS s5) rfl ?_
          exact ih x1 x2 (x3 + (1 : Int32)) s5 k hX55
/-- RowAuditorModel.best(I)I -/
def w_279 (p1 : Int32) (s : ST) (K : Int32 → ST → Prop) : Prop := w_186 p1 (0 : Int32) (10000 : Int32) s (fun r2 s1 => ((¬ r2 = 0 → (∃ m, w_279_L11 m p1 (0 : Int32) (1 : Int32) s1 (fun y2 s15 => K y2 s15) K)) ∧ (¬ (¬ r2 = 0) → K (-1 : Int32) s1)))
theorem q_279 {d : Nat} {K : Int32 → ST → Prop} (p1 : Int32) (s : ST) (k : w_279 p1 s K) : Rn sc (d + 1) 279 [.ref 55, .int p1] (hpS s) (kI K) := by
  have hq : prog[279]? = some pm279 := rfl
  refine Rn.of (L := [.ref 55, .int p1, pu, pu, pu]) hq rfl rfl ?_
  unfold w_279 at k
  refine Ex.seg hq 3 (j := 3) (L' := [.ref 55, .int p1, pu, pu, pu]) (S' := [.int (10000 : Int32), .int (0 : Int32), .int p1]) (h' := hpS s) rfl ?_
  refine Ex.cl hq rfl rfl ?_
  refine Rn.mono (q_186 (d := d + 0) p1 (0 : Int32) (10000 : Int32) s k) ?_
  rintro _ _ ⟨r2, s1, rfl, hzr2, rfl, k⟩
  show Ex sc (d + 1) 279 4 [.ref 55, .int p1, pu, pu, pu] [.int r2] (hpS s1) _
  refine Ex.i1 hq rfl (fun c => ?_) (fun c => ?_)
  · have k := k.1 c
    refine Ex.seg hq 4 (j := 11) (L' := [.ref 55, .int p1, .int (0 : Int32), .int (1 : Int32), pu]) (S' := []) (h' := hpS s1) rfl ?_
    obtain ⟨m, k⟩ := k
    refine q_279_L11 (d := d) m p1 (0 : Int32) (1 : Int32) s1 k ?_
    · intro y2 s15 k
      refine Ex.seg hq 1 (j := 56) (L' := [pu, pu, .int y2, pu, pu]) (S' := [.int y2]) (h' := hpS s15) rfl ?_
      exact Ex.rt hq rfl rfl ⟨y2, s15, rfl, rfl, k⟩
  · have k := k.2 c
    refine Ex.seg hq 1 (j := 6) (L' := [.ref 55, .int p1, pu, pu, pu]) (S' := [.int (-1 : Int32)]) (h' := hpS s1) rfl ?_
    exact Ex.rt hq rfl rfl ⟨(-1 : Int32), s1, rfl, rfl, k⟩
/-- RowAuditorModel.judge(I)I -/
def w_280 (p1 : Int32) (s : ST) (K : Int32 → ST → Prop) : Prop := w_186 p1 (0 : Int32) (((1 : Int32) <<< ((s.1 5579) &&& 31)) - (1 : Int32)) s (fun r2 s1 => ((¬ r2 = 0 → w_277 p1 s1 (fun r4 s3 => ((r4 = 0 → K (-2 : Int32) s3) ∧ (¬ (r4 = 0) → w_278 p1 (0 : Int32) s3 (fun r6 s5 => K r6 s5))))) ∧ (¬ (¬ r2 = 0) → K (-1 : Int32) s1)))
theorem q_280 {d : Nat} {K : Int32 → ST → Prop} (p1 : Int32) (s : ST) (k : w_280 p1 s K) : Rn sc (d + 1) 280 [.ref 55, .int p1] (hpS s) (kI K) := by
  have hq : prog[280]? = some pm280 := rfl
  refine Rn.of (L := [.ref 55, .int p1]) hq rfl rfl ?_
  unfold w_280 at k
  refine Ex.seg hq 8 (j := 8) (L' := [.ref 55, .int p1]) (S' := [.int (((1 : Int32) <<< ((s.1 5579) &&& 31)) - (1 : Int32)), .int (0 : Int32), .int p1]) (h' := hpS s) rfl ?_
  refine Ex.cl hq rfl rfl ?_
  refine Rn.mono (q_186 (d := d + 0) p1 (0 : Int32) (((1 : Int32) <<< ((s.1 5579) &&& 31)) - (1 : Int32)) s k) ?_
  rintro _ _ ⟨r2, s1, rfl, hzr2, rfl, k⟩
  show Ex sc (d + 1) 280 9 [.ref 55, .int p1] [.int r2] (hpS s1) _
  refine Ex.i1 hq rfl (fun c => ?_) (fun c => ?_)
  · have k := k.1 c
    refine Ex.seg hq 2 (j := 14) (L' := [.ref 55, .int p1]) (S' := [.int p1, .ref 55]) (h' := hpS s1) rfl ?_
    refine Ex.cl hq rfl rfl ?_
    refine Rn.mono (q_277 (d := d + 0) p1 s1 k) ?_
    rintro _ _ ⟨r4, s3, rfl, hzr4, rfl, k⟩
    show Ex sc (d + 1) 280 15 [.ref 55, .int p1] [.int r4] (hpS s3) _
    refine Ex.i1 hq rfl (fun c => ?_) (fun c => ?_)
    · have k := k.1 c
      refine Ex.seg hq 1 (j := 22) (L' := [.ref 55, .int p1]) (S' := [.int (-2 : Int32)]) (h' := hpS s3) rfl ?_
      exact Ex.rt hq rfl rfl ⟨(-2 : Int32), s3, rfl, rfl, k⟩
    · have k := k.2 c
      refine Ex.seg hq 3 (j := 19) (L' := [.ref 55, .int p1]) (S' := [.int (0 : Int32), .int p1, .ref 55]) (h' := hpS s3) rfl ?_
      refine Ex.cl hq rfl rfl ?_
      refine Rn.mono (q_278 (d := d + 0) p1 (0 : Int32) s3 k) ?_
      rintro _ _ ⟨r6, s5, rfl, rfl, k⟩
      show Ex sc (d + 1) 280 20 [.ref 55, .int p1] [.int r6] (hpS s5) _
      refine Ex.seg hq 1 (j := 22) (L' := [.ref 55, .int p1]) (S' := [.int r6]) (h' := hpS s5) rfl ?_
      exact Ex.rt hq rfl rfl ⟨r6, s5, rfl, rfl, k⟩
  · have k := k.2 c
    refine Ex.seg hq 1 (j := 11) (L' := [.ref 55, .int p1]) (S' := [.int (-1 : Int32)]) (h' := hpS s1) rfl ?_
    exact Ex.rt hq rfl rfl ⟨(-1 : Int32), s1, rfl, rfl, k⟩
/-- RowAuditorModel.look(II)I -/
def w_281 (p1 : Int32) (p2 : Int32) (s : ST) (K : Int32 → ST → Prop) : Prop := w_190 p1 s (fun r2 s1 => ((¬ r2 = 0 → (((p2).toInt < 0 ∨ 10 < (p2).toInt → K (-1 : Int32) s1) ∧ (p2 = (0 : Int32) → (pin p1 150 = true ∧ K ((s1.2.1 57) (p1).toNatClampNeg) s1)) ∧ (p2 = (1 : Int32) → (pin p1 150 = true ∧ K ((s1.2.1 58) (p1).toNatClampNeg) s1)) ∧ (p2 = (2 : Int32) → (pin p1 150 = true ∧ K ((s1.2.1 59) (p1).toNatClampNeg) s1)) ∧ (p2 = (3 : Int32) → (pin p1 150 = true ∧ K ((s1.2.1 60) (p1).toNatClampNeg) s1)) ∧ (p2 = (4 : Int32) → (pin p1 150 = true ∧ K ((s1.2.1 61) (p1).toNatClampNeg) s1)) ∧ (p2 = (5 : Int32) → (pin p1 150 = true ∧ K ((s1.2.1 62) (p1).toNatClampNeg) s1)) ∧ (p2 = (6 : Int32) → (pin p1 150 = true ∧ K ((s1.2.1 63) (p1).toNatClampNeg) s1)) ∧ (p2 = (7 : Int32) → (pin p1 150 = true ∧ K ((s1.2.1 64) (p1).toNatClampNeg) s1)) ∧ (p2 = (8 : Int32) → (pin p1 150 = true ∧ K ((s1.2.1 65) (p1).toNatClampNeg) s1)) ∧ (p2 = (9 : Int32) → (pin p1 150 = true ∧ K ((s1.2.1 66) (p1).toNatClampNeg) s1)) ∧ (p2 = (10 : Int32) → (pin p1 150 = true ∧ K ((s1.2.1 67) (p1).toNatClampNeg) s1)))) ∧ (¬ (¬ r2 = 0) → K (-1 : Int32) s1)))
theorem q_281 {d : Nat} {K : Int32 → ST → Prop} (p1 : Int32) (p2 : Int32) (s : ST) (k : w_281 p1 p2 s K) : Rn sc (d + 1) 281 [.ref 55, .int p1, .int p2] (hpS s) (kI K) := by
  have hq : prog[281]? = some pm281 := rfl
  refine Rn.of (L := [.ref 55, .int p1, .int p2]) hq rfl rfl ?_
  unfold w_281 at k
  refine Ex.seg hq 2 (j := 2) (L' := [.ref 55, .int p1, .int p2]) (S' := [.int p1, .ref 55]) (h' := hpS s) rfl ?_
  refine Ex.cl hq rfl rfl ?_
  refine Rn.mono (q_190 (d := d + 0) p1 s k) ?_
  rintro _ _ ⟨r2, s1, rfl, hzr2, rfl, k⟩
  show Ex sc (d + 1) 281 3 [.ref 55, .int p1, .int p2] [.int r2] (hpS s1) _
  refine Ex.i1 hq rfl (fun c => ?_) (fun c => ?_)
  · have k := k.1 c
    refine Ex.seg hq 1 (j := 7) (L' := [.ref 55, .int p1, .int p2]) (S' := [.int p2]) (h' := hpS s1) rfl ?_
    refine Ex.tsw hq rfl (fun c => ?_) (fun t c ht => ?_) (by decide)
    · have k := k.1 c
      refine Ex.seg hq 1 (j := 64) (L' := [.ref 55, .int p1, .int p2]) (S' := [.int (-1 : Int32)]) (h' := hpS s1) rfl ?_
      exact Ex.rt hq rfl rfl ⟨(-1 : Int32), s1, rfl, rfl, k⟩
    · have k := k.2
      rcases (show (p2).toInt = 0 ∨ (p2).toInt = 1 ∨ (p2).toInt = 2 ∨ (p2).toInt = 3 ∨ (p2).toInt = 4 ∨ (p2).toInt = 5 ∨ (p2).toInt = 6 ∨ (p2).toInt = 7 ∨ (p2).toInt = 8 ∨ (p2).toInt = 9 ∨ (p2).toInt = 10 by omega) with e | e | e | e | e | e | e | e | e | e | e
      · have cx : p2 = (0 : Int32) := Int32.toInt_inj.mp (by rw [e]; rfl)
        have k := k.1 cx
        rw [e] at ht
        have ht : (some 8 : Option Nat) = some t := ht
        cases ht
        refine Ex.seg hq 3 (j := 11) (L' := [.ref 55, .int p1, .int p2]) (S' := [.int p1, .ref 57]) (h' := hpS s1) rfl ?_
        obtain ⟨hin, k⟩ := k
        refine Ex.ial hq rfl rfl hin ?_
        exact Ex.rt hq rfl rfl ⟨((s1.2.1 57) (p1).toNatClampNeg), s1, rfl, rfl, k⟩
      · have cx : p2 = (1 : Int32) := Int32.toInt_inj.mp (by rw [e]; rfl)
        have k := k.2.1 cx
        rw [e] at ht
        have ht : (some 13 : Option Nat) = some t := ht
        cases ht
        refine Ex.seg hq 3 (j := 16) (L' := [.ref 55, .int p1, .int p2]) (S' := [.int p1, .ref 58]) (h' := hpS s1) rfl ?_
        obtain ⟨hin, k⟩ := k
        refine Ex.ial hq rfl rfl hin ?_
        exact Ex.rt hq rfl rfl ⟨((s1.2.1 58) (p1).toNatClampNeg), s1, rfl, rfl, k⟩
      · have cx : p2 = (2 : Int32) := Int32.toInt_inj.mp (by rw [e]; rfl)
        have k := k.2.2.1 cx
        rw [e] at ht
        have ht : (some 18 : Option Nat) = some t := ht
        cases ht
        refine Ex.seg hq 3 (j := 21) (L' := [.ref 55, .int p1, .int p2]) (S' := [.int p1, .ref 59]) (h' := hpS s1) rfl ?_
        obtain ⟨hin, k⟩ := k
        refine Ex.ial hq rfl rfl hin ?_
        exact Ex.rt hq rfl rfl ⟨((s1.2.1 59) (p1).toNatClampNeg), s1, rfl, rfl, k⟩
      · have cx : p2 = (3 : Int32) := Int32.toInt_inj.mp (by rw [e]; rfl)
        have k := k.2.2.2.1 cx
        rw [e] at ht
        have ht : (some 23 : Option Nat) = some t := ht
        cases ht
        refine Ex.seg hq 3 (j := 26) (L' := [.ref 55, .int p1, .int p2]) (S' := [.int p1, .ref 60]) (h' := hpS s1) rfl ?_
        obtain ⟨hin, k⟩ := k
        refine Ex.ial hq rfl rfl hin ?_
        exact Ex.rt hq rfl rfl ⟨((s1.2.1 60) (p1).toNatClampNeg), s1, rfl, rfl, k⟩
      · have cx : p2 = (4 : Int32) := Int32.toInt_inj.mp (by rw [e]; rfl)
        have k := k.2.2.2.2.1 cx
        rw [e] at ht
        have ht : (some 28 : Option Nat) = some t := ht
        cases ht
        refine Ex.seg hq 3 (j := 31) (L' := [.ref 55, .int p1, .int p2]) (S' := [.int p1, .ref 61]) (h' := hpS s1) rfl ?_
        obtain ⟨hin, k⟩ := k
        refine Ex.ial hq rfl rfl hin ?_
        exact Ex.rt hq rfl rfl ⟨((s1.2.1 61) (p1).toNatClampNeg), s1, rfl, rfl, k⟩
      · have cx : p2 = (5 : Int32) := Int32.toInt_inj.mp (by rw [e]; rfl)
        have k := k.2.2.2.2.2.1 cx
        rw [e] at ht
        have ht : (some 33 : Option Nat) = some t := ht
        cases ht
        refine Ex.seg hq 3 (j := 36) (L' := [.ref 55, .int p1, .int p2]) (S' := [.int p1, .ref 62]) (h' := hpS s1) rfl ?_
        obtain ⟨hin, k⟩ := k
        refine Ex.ial hq rfl rfl hin ?_
        exact Ex.rt hq rfl rfl ⟨((s1.2.1 62) (p1).toNatClampNeg), s1, rfl, rfl, k⟩
      · have cx : p2 = (6 : Int32) := Int32.toInt_inj.mp (by rw [e]; rfl)
        have k := k.2.2.2.2.2.2.1 cx
        rw [e] at ht
        have ht : (some 38 : Option Nat) = some t := ht
        cases ht
        refine Ex.seg hq 3 (j := 41) (L' := [.ref 55, .int p1, .int p2]) (S' := [.int p1, .ref 63]) (h' := hpS s1) rfl ?_
        obtain ⟨hin, k⟩ := k
        refine Ex.ial hq rfl rfl hin ?_
        exact Ex.rt hq rfl rfl ⟨((s1.2.1 63) (p1).toNatClampNeg), s1, rfl, rfl, k⟩
      · have cx : p2 = (7 : Int32) := Int32.toInt_inj.mp (by rw [e]; rfl)
        have k := k.2.2.2.2.2.2.2.1 cx
        rw [e] at ht
        have ht : (some 43 : Option Nat) = some t := ht
        cases ht
        refine Ex.seg hq 3 (j := 46) (L' := [.ref 55, .int p1, .int p2]) (S' := [.int p1, .ref 64]) (h' := hpS s1) rfl ?_
        obtain ⟨hin, k⟩ := k
        refine Ex.ial hq rfl rfl hin ?_
        exact Ex.rt hq rfl rfl ⟨((s1.2.1 64) (p1).toNatClampNeg), s1, rfl, rfl, k⟩
      · have cx : p2 = (8 : Int32) := Int32.toInt_inj.mp (by rw [e]; rfl)
        have k := k.2.2.2.2.2.2.2.2.1 cx
        rw [e] at ht
        have ht : (some 48 : Option Nat) = some t := ht
        cases ht
        refine Ex.seg hq 3 (j := 51) (L' := [.ref 55, .int p1, .int p2]) (S' := [.int p1, .ref 65]) (h' := hpS s1) rfl ?_
        obtain ⟨hin, k⟩ := k
        refine Ex.ial hq rfl rfl hin ?_
        exact Ex.rt hq rfl rfl ⟨((s1.2.1 65) (p1).toNatClampNeg), s1, rfl, rfl, k⟩
      · have cx : p2 = (9 : Int32) := Int32.toInt_inj.mp (by rw [e]; rfl)
        have k := k.2.2.2.2.2.2.2.2.2.1 cx
        rw [e] at ht
        have ht : (some 53 : Option Nat) = some t := ht
        cases ht
        refine Ex.seg hq 3 (j := 56) (L' := [.ref 55, .int p1, .int p2]) (S' := [.int p1, .ref 66]) (h' := hpS s1) rfl ?_
        obtain ⟨hin, k⟩ := k
        refine Ex.ial hq rfl rfl hin ?_
        exact Ex.rt hq rfl rfl ⟨((s1.2.1 66) (p1).toNatClampNeg), s1, rfl, rfl, k⟩
      · have cx : p2 = (10 : Int32) := Int32.toInt_inj.mp (by rw [e]; rfl)
        have k := k.2.2.2.2.2.2.2.2.2.2 cx
        rw [e] at ht
        have ht : (some 58 : Option Nat) = some t := ht
        cases ht
        refine Ex.seg hq 3 (j := 61) (L' := [.ref 55, .int p1, .int p2]) (S' := [.int p1, .ref 67]) (h' := hpS s1) rfl ?_
        obtain ⟨hin, k⟩ := k
        refine Ex.ial hq rfl rfl hin ?_
        exact Ex.rt hq rfl rfl ⟨((s1.2.1 67) (p1).toNatClampNeg), s1, rfl, rfl, k⟩
  · have k := k.2 c
    refine Ex.seg hq 1 (j := 5) (L' := [.ref 55, .int p1, .int p2]) (S' := [.int (-1 : Int32)]) (h' := hpS s1) rfl ?_
    exact Ex.rt hq rfl rfl ⟨(-1 : Int32), s1, rfl, rfl, k⟩
/-- RowAuditorModel.count(I)I -/
def w_282 (p1 : Int32) (s : ST) (K : Int32 → ST → Prop) : Prop := (((p1).toInt < 0 ∨ 8 < (p1).toInt → w_186 p1 (20 : Int32) ((19 : Int32) + (s.1 5541)) s (fun r2 s1 => ((r2 = 0 → w_186 p1 (40 : Int32) ((39 : Int32) + (s1.1 5542)) s1 (fun r4 s3 => ((r4 = 0 → K (-1 : Int32) s3) ∧ (¬ (r4 = 0) → (pin (((20 : Int32) + p1) - (40 : Int32)) 26 = true ∧ K ((s3.2.1 86) ((((20 : Int32) + p1) - (40 : Int32))).toNatClampNeg) s3))))) ∧ (¬ (r2 = 0) → (pin (p1 - (20 : Int32)) 26 = true ∧ K ((s1.2.1 86) ((p1 - (20 : Int32))).toNatClampNeg) s1))))) ∧ (p1 = (0 : Int32) → K (s.1 5500) s) ∧ (p1 = (1 : Int32) → K (s.1 5501) s) ∧ (p1 = (2 : Int32) → K (s.1 5502) s) ∧ (p1 = (3 : Int32) → K (s.1 5541) s) ∧ (p1 = (4 : Int32) → K (s.1 5503) s) ∧ (p1 = (5 : Int32) → K (s.1 5542) s) ∧ (p1 = (6 : Int32) → K (s.1 5578) s) ∧ (p1 = (7 : Int32) → K (s.1 5579) s) ∧ (p1 = (8 : Int32) → K (s.1 5525) s))
theorem q_282 {d : Nat} {K : Int32 → ST → Prop} (p1 : Int32) (s : ST) (k : w_282 p1 s K) : Rn sc (d + 1) 282 [.ref 55, .int p1] (hpS s) (kI K) := by
  have hq : prog[282]? = some pm282 := rfl
  refine Rn.of (L := [.ref 55, .int p1]) hq rfl rfl ?_
  unfold w_282 at k
  refine Ex.seg hq 1 (j := 1) (L' := [.ref 55, .int p1]) (S' := [.int p1]) (h' := hpS s) rfl ?_
  refine Ex.tsw hq rfl (fun c => ?_) (fun t c ht => ?_) (by decide)
  · have k := k.1 c
    refine Ex.seg hq 6 (j := 35) (L' := [.ref 55, .int p1]) (S' := [.int ((19 : Int32) + (s.1 5541)), .int (20 : Int32), .int p1]) (h' := hpS s) rfl ?_
    refine Ex.cl hq rfl rfl ?_
    refine Rn.mono (q_186 (d := d + 0) p1 (20 : Int32) ((19 : Int32) + (s.1 5541)) s k) ?_
    rintro _ _ ⟨r2, s1, rfl, hzr2, rfl, k⟩
    show Ex sc (d + 1) 282 36 [.ref 55, .int p1] [.int r2] (hpS s1) _
    refine Ex.i1 hq rfl (fun c => ?_) (fun c => ?_)
    · have k := k.1 c
      refine Ex.seg hq 6 (j := 50) (L' := [.ref 55, .int p1]) (S' := [.int ((39 : Int32) + (s1.1 5542)), .int (40 : Int32), .int p1]) (h' := hpS s1) rfl ?_
      refine Ex.cl hq rfl rfl ?_
      refine Rn.mono (q_186 (d := d + 0) p1 (40 : Int32) ((39 : Int32) + (s1.1 5542)) s1 k) ?_
      rintro _ _ ⟨r4, s3, rfl, hzr4, rfl, k⟩
      show Ex sc (d + 1) 282 51 [.ref 55, .int p1] [.int r4] (hpS s3) _
      refine Ex.i1 hq rfl (fun c => ?_) (fun c => ?_)
      · have k := k.1 c
        refine Ex.seg hq 1 (j := 62) (L' := [.ref 55, .int p1]) (S' := [.int (-1 : Int32)]) (h' := hpS s3) rfl ?_
        exact Ex.rt hq rfl rfl ⟨(-1 : Int32), s3, rfl, rfl, k⟩
      · have k := k.2 c
        refine Ex.seg hq 7 (j := 59) (L' := [.ref 55, .int p1]) (S' := [.int (((20 : Int32) + p1) - (40 : Int32)), .ref 86]) (h' := hpS s3) rfl ?_
        obtain ⟨hin, k⟩ := k
        refine Ex.ial hq rfl rfl hin ?_
        refine Ex.seg hq 1 (j := 62) (L' := [.ref 55, .int p1]) (S' := [.int ((s3.2.1 86) ((((20 : Int32) + p1) - (40 : Int32))).toNatClampNeg)]) (h' := hpS s3) rfl ?_
        exact Ex.rt hq rfl rfl ⟨((s3.2.1 86) ((((20 : Int32) + p1) - (40 : Int32))).toNatClampNeg), s3, rfl, rfl, k⟩
    · have k := k.2 c
      refine Ex.seg hq 5 (j := 42) (L' := [.ref 55, .int p1]) (S' := [.int (p1 - (20 : Int32)), .ref 86]) (h' := hpS s1) rfl ?_
      obtain ⟨hin, k⟩ := k
      refine Ex.ial hq rfl rfl hin ?_
      exact Ex.rt hq rfl rfl ⟨((s1.2.1 86) ((p1 - (20 : Int32))).toNatClampNeg), s1, rfl, rfl, k⟩
  · have k := k.2
    rcases (show (p1).toInt = 0 ∨ (p1).toInt = 1 ∨ (p1).toInt = 2 ∨ (p1).toInt = 3 ∨ (p1).toInt = 4 ∨ (p1).toInt = 5 ∨ (p1).toInt = 6 ∨ (p1).toInt = 7 ∨ (p1).toInt = 8 by omega) with e | e | e | e | e | e | e | e | e
    · have cx : p1 = (0 : Int32) := Int32.toInt_inj.mp (by rw [e]; rfl)
      have k := k.1 cx
      rw [e] at ht
      have ht : (some 2 : Option Nat) = some t := ht
      cases ht
      refine Ex.seg hq 2 (j := 4) (L' := [.ref 55, .int p1]) (S' := [.int (s.1 5500)]) (h' := hpS s) rfl ?_
      exact Ex.rt hq rfl rfl ⟨(s.1 5500), s, rfl, rfl, k⟩
    · have cx : p1 = (1 : Int32) := Int32.toInt_inj.mp (by rw [e]; rfl)
      have k := k.2.1 cx
      rw [e] at ht
      have ht : (some 5 : Option Nat) = some t := ht
      cases ht
      refine Ex.seg hq 2 (j := 7) (L' := [.ref 55, .int p1]) (S' := [.int (s.1 5501)]) (h' := hpS s) rfl ?_
      exact Ex.rt hq rfl rfl ⟨(s.1 5501), s, rfl, rfl, k⟩
    · have cx : p1 = (2 : Int32) := Int32.toInt_inj.mp (by rw [e]; rfl)
      have k := k.2.2.1 cx
      rw [e] at ht
      have ht : (some 8 : Option Nat) = some t := ht
      cases ht
      refine Ex.seg hq 2 (j := 10) (L' := [.ref 55, .int p1]) (S' := [.int (s.1 5502)]) (h' := hpS s) rfl ?_
      exact Ex.rt hq rfl rfl ⟨(s.1 5502), s, rfl, rfl, k⟩
    · have cx : p1 = (3 : Int32) := Int32.toInt_inj.mp (by rw [e]; rfl)
      have k := k.2.2.2.1 cx
      rw [e] at ht
      have ht : (some 11 : Option Nat) = some t := ht
      cases ht
      refine Ex.seg hq 2 (j := 13) (L' := [.ref 55, .int p1]) (S' := [.int (s.1 5541)]) (h' := hpS s) rfl ?_
      exact Ex.rt hq rfl rfl ⟨(s.1 5541), s, rfl, rfl, k⟩
    · have cx : p1 = (4 : Int32) := Int32.toInt_inj.mp (by rw [e]; rfl)
      have k := k.2.2.2.2.1 cx
      rw [e] at ht
      have ht : (some 14 : Option Nat) = some t := ht
      cases ht
      refine Ex.seg hq 2 (j := 16) (L' := [.ref 55, .int p1]) (S' := [.int (s.1 5503)]) (h' := hpS s) rfl ?_
      exact Ex.rt hq rfl rfl ⟨(s.1 5503), s, rfl, rfl, k⟩
    · have cx : p1 = (5 : Int32) := Int32.toInt_inj.mp (by rw [e]; rfl)
      have k := k.2.2.2.2.2.1 cx
      rw [e] at ht
      have ht : (some 17 : Option Nat) = some t := ht
      cases ht
      refine Ex.seg hq 2 (j := 19) (L' := [.ref 55, .int p1]) (S' := [.int (s.1 5542)]) (h' := hpS s) rfl ?_
      exact Ex.rt hq rfl rfl ⟨(s.1 5542), s, rfl, rfl, k⟩
    · have cx : p1 = (6 : Int32) := Int32.toInt_inj.mp (by rw [e]; rfl)
      have k := k.2.2.2.2.2.2.1 cx
      rw [e] at ht
      have ht : (some 20 : Option Nat) = some t := ht
      cases ht
      refine Ex.seg hq 2 (j := 22) (L' := [.ref 55, .int p1]) (S' := [.int (s.1 5578)]) (h' := hpS s) rfl ?_
      exact Ex.rt hq rfl rfl ⟨(s.1 5578), s, rfl, rfl, k⟩
    · have cx : p1 = (7 : Int32) := Int32.toInt_inj.mp (by rw [e]; rfl)
      have k := k.2.2.2.2.2.2.2.1 cx
      rw [e] at ht
      have ht : (some 23 : Option Nat) = some t := ht
      cases ht
      refine Ex.seg hq 2 (j := 25) (L' := [.ref 55, .int p1]) (S' := [.int (s.1 5579)]) (h' := hpS s) rfl ?_
      exact Ex.rt hq rfl rfl ⟨(s.1 5579), s, rfl, rfl, k⟩
    · have cx : p1 = (8 : Int32) := Int32.toInt_inj.mp (by rw [e]; rfl)
      have k := k.2.2.2.2.2.2.2.2 cx
      rw [e] at ht
      have ht : (some 26 : Option Nat) = some t := ht
      cases ht
      refine Ex.seg hq 2 (j := 28) (L' := [.ref 55, .int p1]) (S' := [.int (s.1 5525)]) (h' := hpS s) rfl ?_
      exact Ex.rt hq rfl rfl ⟨(s.1 5525), s, rfl, rfl, k⟩
end WP
