/-! ===== weakest preconditions, printed by wip/whole/genwp.py ===== -/
section WP
variable {sc : Nat × (Nat → Int32)}
def w_158_9 : Nat → Int32 → Int32 → Int64 → Int32 → ST → (Int64 → ST → Prop) → (Int64 → ST → Prop) → Prop
  | 0, _, _, _, _, _, _, _ => False
  | n + 1, x0, x1, x2, x4, s, X26, K => ((x1 < x4 → X26 x2 s) ∧ (¬ (x1 < x4) → (¬ ((x4).toInt64) = 0 ∧ w_158_9 n x0 x1 ((x2 * ((((x0 - x1) + x4)).toInt64)) / ((x4).toInt64)) (x4 + (1 : Int32)) s X26 K)))
theorem q_158_9 {d : Nat} {X26 : Int64 → ST → Prop} {K : Int64 → ST → Prop} : ∀ (n : Nat) (x0 : Int32) (x1 : Int32) (x2 : Int64) (x4 : Int32) (s : ST), w_158_9 n x0 x1 x2 x4 s X26 K → (∀ (y2 : Int64) (s : ST), X26 y2 s → Ex sc (d + 0) 158 26 [pu, pu, .long y2, pu, pu] [] (hpS s) (kJ K)) → Ex sc (d + 0) 158 9 [.int x0, .int x1, .long x2, pu, .int x4] [] (hpS s) (kJ K) := by
  have hq : prog[158]? = some pm158 := rfl
  intro n
  induction n with
  | zero =>
    intro x0 x1 x2 x4 s k
    exact k.elim
  | succ n ih =>
    intro x0 x1 x2 x4 s k hX26
    rw [w_158_9] at k
    refine Ex.seg hq 2 (j := 11) (L' := [.int x0, .int x1, .long x2, pu, .int x4]) (S' := [.int x1, .int x4]) (h' := hpS s) rfl ?_
    refine Ex.i2 hq rfl (fun c => ?_) (fun c => ?_)
    · have k := k.1 c
      refine Ex.fg (L := [pu, pu, .long x2, pu, pu]) ⟨Or.inr ⟨rfl, rfl⟩, ⟨Or.inr ⟨rfl, rfl⟩, ⟨Or.inl rfl, ⟨Or.inl rfl, ⟨Or.inr ⟨rfl, rfl⟩, trivial⟩⟩⟩⟩⟩ ?_
      exact hX26 x2 s k
    · have k := k.2 c
      refine Ex.seg hq 10 (j := 22) (L' := [.int x0, .int x1, .long x2, pu, .int x4]) (S' := [.long ((x4).toInt64), .long (x2 * ((((x0 - x1) + x4)).toInt64))]) (h' := hpS s) rfl ?_
      obtain ⟨hz, k⟩ := k
      refine Ex.ldv hq rfl hz ?_
      refine Ex.seg hq 3 (j := 9) (L' := [.int x0, .int x1, .long ((x2 * ((((x0 - x1) + x4)).toInt64)) / ((x4).toInt64)), pu, .int (x4 + (1 : Int32))]) (S' := []) (h' := hpS s) rfl ?_
      exact ih x0 x1 ((x2 * ((((x0 - x1) + x4)).toInt64)) / ((x4).toInt64)) (x4 + (1 : Int32)) s k hX26
/-- RowAuditor.choose(II)J -/
def w_158 (p0 : Int32) (p1 : Int32) (s : ST) (K : Int64 → ST → Prop) : Prop := ((p1 ≤ p0 → (∃ m, w_158_9 m p0 p1 (1 : Int64) (1 : Int32) s (fun y2 s1 => K y2 s1) K)) ∧ (¬ (p1 ≤ p0) → K (0 : Int64) s))
theorem q_158 {d : Nat} {K : Int64 → ST → Prop} (p0 : Int32) (p1 : Int32) (s : ST) (k : w_158 p0 p1 s K) : Rn sc (d + 0) 158 [.int p0, .int p1] (hpS s) (kJ K) := by
  have hq : prog[158]? = some pm158 := rfl
  refine Rn.of (L := [.int p0, .int p1, pu, pu, pu]) hq rfl rfl ?_
  unfold w_158 at k
  refine Ex.seg hq 2 (j := 2) (L' := [.int p0, .int p1, pu, pu, pu]) (S' := [.int p0, .int p1]) (h' := hpS s) rfl ?_
  refine Ex.i2 hq rfl (fun c => ?_) (fun c => ?_)
  · have k := k.1 c
    refine Ex.seg hq 4 (j := 9) (L' := [.int p0, .int p1, .long (1 : Int64), pu, .int (1 : Int32)]) (S' := []) (h' := hpS s) rfl ?_
    obtain ⟨m, k⟩ := k
    refine q_158_9 (d := d) m p0 p1 (1 : Int64) (1 : Int32) s k ?_
    · intro y2 s1 k
      refine Ex.seg hq 1 (j := 27) (L' := [pu, pu, .long y2, pu, pu]) (S' := [.long y2]) (h' := hpS s1) rfl ?_
      exact Ex.rt hq rfl rfl ⟨y2, s1, rfl, rfl, k⟩
  · have k := k.2 c
    refine Ex.seg hq 1 (j := 4) (L' := [.int p0, .int p1, pu, pu, pu]) (S' := [.long (0 : Int64)]) (h' := hpS s) rfl ?_
    exact Ex.rt hq rfl rfl ⟨(0 : Int64), s, rfl, rfl, k⟩
def w_166_2 : Nat → Int32 → Int32 → Int32 → ST → (ST → Prop) → (ST → Prop) → (Int32 → ST → Prop) → Prop
  | 0, _, _, _, _, _, _, _ => False
  | n + 1, x1, x2, x3, s, X18, X14, K => ((x2 ≤ x3 → X18  s) ∧ (¬ (x2 ≤ x3) → (((50 : Int32) ≤ x3 → X18  s) ∧ (¬ ((50 : Int32) ≤ x3) → (pin x3 50 = true ∧ ((¬ ((s.2.1 33) (x3).toNatClampNeg) = x1 → w_166_2 n x1 x2 (x3 + (1 : Int32)) s X18 X14 K) ∧ (¬ (¬ ((s.2.1 33) (x3).toNatClampNeg) = x1) → X14  s)))))))
theorem q_166_2 {d : Nat} {X18 : ST → Prop} {X14 : ST → Prop} {K : Int32 → ST → Prop} : ∀ (n : Nat) (x1 : Int32) (x2 : Int32) (x3 : Int32) (s : ST), w_166_2 n x1 x2 x3 s X18 X14 K → (∀ (s : ST), X18  s → Ex sc (d + 0) 166 18 [pu, pu, pu, pu] [] (hpS s) (kZ K)) → (∀ (s : ST), X14  s → Ex sc (d + 0) 166 14 [pu, pu, pu, pu] [] (hpS s) (kZ K)) → Ex sc (d + 0) 166 2 [.ref 0, .int x1, .int x2, .int x3] [] (hpS s) (kZ K) := by
  have hq : prog[166]? = some pm166 := rfl
  intro n
  induction n with
  | zero =>
    intro x1 x2 x3 s k
    exact k.elim
  | succ n ih =>
    intro x1 x2 x3 s k hX18 hX14
    rw [w_166_2] at k
    refine Ex.seg hq 2 (j := 4) (L' := [.ref 0, .int x1, .int x2, .int x3]) (S' := [.int x2, .int x3]) (h' := hpS s) rfl ?_
    refine Ex.i2 hq rfl (fun c => ?_) (fun c => ?_)
    · have k := k.1 c
      refine Ex.fg (L := [pu, pu, pu, pu]) ⟨Or.inr ⟨rfl, rfl⟩, ⟨Or.inr ⟨rfl, rfl⟩, ⟨Or.inr ⟨rfl, rfl⟩, ⟨Or.inr ⟨rfl, rfl⟩, trivial⟩⟩⟩⟩ ?_
      exact hX18  s k
    · have k := k.2 c
      refine Ex.seg hq 2 (j := 7) (L' := [.ref 0, .int x1, .int x2, .int x3]) (S' := [.int (50 : Int32), .int x3]) (h' := hpS s) rfl ?_
      refine Ex.i2 hq rfl (fun c => ?_) (fun c => ?_)
      · have k := k.1 c
        refine Ex.fg (L := [pu, pu, pu, pu]) ⟨Or.inr ⟨rfl, rfl⟩, ⟨Or.inr ⟨rfl, rfl⟩, ⟨Or.inr ⟨rfl, rfl⟩, ⟨Or.inr ⟨rfl, rfl⟩, trivial⟩⟩⟩⟩ ?_
        exact hX18  s k
      · have k := k.2 c
        refine Ex.seg hq 3 (j := 11) (L' := [.ref 0, .int x1, .int x2, .int x3]) (S' := [.int x3, .ref 33]) (h' := hpS s) rfl ?_
        obtain ⟨hin, k⟩ := k
        refine Ex.ial hq rfl rfl hin ?_
        refine Ex.seg hq 1 (j := 13) (L' := [.ref 0, .int x1, .int x2, .int x3]) (S' := [.int x1, .int ((s.2.1 33) (x3).toNatClampNeg)]) (h' := hpS s) rfl ?_
        refine Ex.i2 hq rfl (fun c => ?_) (fun c => ?_)
        · have k := k.1 c
          refine Ex.seg hq 2 (j := 2) (L' := [.ref 0, .int x1, .int x2, .int (x3 + (1 : Int32))]) (S' := []) (h' := hpS s) rfl ?_
          exact ih x1 x2 (x3 + (1 : Int32)) s k hX18 hX14
        · have k := k.2 c
          refine Ex.fg (L := [pu, pu, pu, pu]) ⟨Or.inr ⟨rfl, rfl⟩, ⟨Or.inr ⟨rfl, rfl⟩, ⟨Or.inr ⟨rfl, rfl⟩, ⟨Or.inr ⟨rfl, rfl⟩, trivial⟩⟩⟩⟩ ?_
          exact hX14  s k
/-- RowAuditor.isDrawn(II)Z -/
def w_166 (p0 : Int32) (p1 : Int32) (s : ST) (K : Int32 → ST → Prop) : Prop := (∃ m, w_166_2 m p0 p1 (0 : Int32) s (fun s1 => K (0 : Int32) s1) (fun s2 => K (1 : Int32) s2) K)
theorem q_166 {d : Nat} {K : Int32 → ST → Prop} (p0 : Int32) (p1 : Int32) (s : ST) (k : w_166 p0 p1 s K) : Rn sc (d + 0) 166 [.ref 0, .int p0, .int p1] (hpS s) (kZ K) := by
  have hq : prog[166]? = some pm166 := rfl
  refine Rn.of (L := [.ref 0, .int p0, .int p1, pu]) hq rfl rfl ?_
  unfold w_166 at k
  refine Ex.seg hq 2 (j := 2) (L' := [.ref 0, .int p0, .int p1, .int (0 : Int32)]) (S' := []) (h' := hpS s) rfl ?_
  obtain ⟨m, k⟩ := k
  refine q_166_2 (d := d) m p0 p1 (0 : Int32) s k ?_ ?_
  · intro s1 k
    refine Ex.seg hq 1 (j := 19) (L' := [pu, pu, pu, pu]) (S' := [.int (0 : Int32)]) (h' := hpS s1) rfl ?_
    exact Ex.zr hq rfl rfl (Or.inl rfl) ⟨(0 : Int32), s1, rfl, (Or.inl rfl), rfl, k⟩
  · intro s2 k
    refine Ex.seg hq 1 (j := 15) (L' := [pu, pu, pu, pu]) (S' := [.int (1 : Int32)]) (h' := hpS s2) rfl ?_
    exact Ex.zr hq rfl rfl (Or.inr rfl) ⟨(1 : Int32), s2, rfl, (Or.inr rfl), rfl, k⟩
/-- RowAuditor.putIn(I)Z -/
def w_173 (p0 : Int32) (s : ST) (K : Int32 → ST → Prop) : Prop := w_2 p0 s (fun r2 s1 => ((r2 = 0 → K (0 : Int32) s1) ∧ (¬ (r2 = 0) → (pin p0 150 = true ∧ ((((s1.2.1 29) (p0).toNatClampNeg) = 0 → (pin p0 150 = true ∧ K (1 : Int32) (sA s1 29 (upd (s1.2.1 29) (p0).toNatClampNeg (vp_nar .boolean (1 : Int32)))))) ∧ (¬ (((s1.2.1 29) (p0).toNatClampNeg) = 0) → K (0 : Int32) s1))))))
theorem q_173 {d : Nat} {K : Int32 → ST → Prop} (p0 : Int32) (s : ST) (k : w_173 p0 s K) : Rn sc (d + 1) 173 [.ref 0, .int p0] (hpS s) (kZ K) := by
  have hq : prog[173]? = some pm173 := rfl
  refine Rn.of (L := [.ref 0, .int p0]) hq rfl rfl ?_
  unfold w_173 at k
  refine Ex.seg hq 3 (j := 3) (L' := [.ref 0, .int p0]) (S' := [.int p0, .ref 1]) (h' := hpS s) rfl ?_
  refine Ex.cl hq rfl rfl ?_
  refine Rn.mono (q_2 (d := d + 0) p0 s k) ?_
  rintro _ _ ⟨r2, s1, rfl, hzr2, rfl, k⟩
  show Ex sc (d + 1) 173 4 [.ref 0, .int p0] [.int r2] (hpS s1) _
  refine Ex.i1 hq rfl (fun c => ?_) (fun c => ?_)
  · have k := k.1 c
    refine Ex.seg hq 1 (j := 11) (L' := [.ref 0, .int p0]) (S' := [.int (0 : Int32)]) (h' := hpS s1) rfl ?_
    exact Ex.zr hq rfl rfl (Or.inl rfl) ⟨(0 : Int32), s1, rfl, (Or.inl rfl), rfl, k⟩
  · have k := k.2 c
    refine Ex.seg hq 3 (j := 8) (L' := [.ref 0, .int p0]) (S' := [.int p0, .ref 29]) (h' := hpS s1) rfl ?_
    obtain ⟨hin, k⟩ := k
    refine Ex.zal hq rfl rfl hin ?_
    refine Ex.i1 hq rfl (fun c => ?_) (fun c => ?_)
    · have k := k.1 c
      refine Ex.seg hq 4 (j := 16) (L' := [.ref 0, .int p0]) (S' := [.int (1 : Int32), .int p0, .ref 29]) (h' := hpS s1) rfl ?_
      obtain ⟨hin, k⟩ := k
      refine Ex.zas hq rfl rfl hin (h' := hpS (sA s1 29 (upd (s1.2.1 29) (p0).toNatClampNeg (vp_nar .boolean (1 : Int32))))) (hset_29 _ _) ?_
      refine Ex.seg hq 1 (j := 18) (L' := [.ref 0, .int p0]) (S' := [.int (1 : Int32)]) (h' := hpS (sA s1 29 (upd (s1.2.1 29) (p0).toNatClampNeg (vp_nar .boolean (1 : Int32))))) rfl ?_
      exact Ex.zr hq rfl rfl (Or.inr rfl) ⟨(1 : Int32), (sA s1 29 (upd (s1.2.1 29) (p0).toNatClampNeg (vp_nar .boolean (1 : Int32)))), rfl, (Or.inr rfl), rfl, k⟩
    · have k := k.2 c
      refine Ex.seg hq 1 (j := 11) (L' := [.ref 0, .int p0]) (S' := [.int (0 : Int32)]) (h' := hpS s1) rfl ?_
      exact Ex.zr hq rfl rfl (Or.inl rfl) ⟨(0 : Int32), s1, rfl, (Or.inl rfl), rfl, k⟩
/-- RowAuditor.look(II)I -/
def w_178 (p0 : Int32) (p1 : Int32) (s : ST) (K : Int32 → ST → Prop) : Prop := w_9 p0 p1 s (fun r2 s1 => K r2 s1)
theorem q_178 {d : Nat} {K : Int32 → ST → Prop} (p0 : Int32) (p1 : Int32) (s : ST) (k : w_178 p0 p1 s K) : Rn sc (d + 1) 178 [.ref 0, .int p0, .int p1] (hpS s) (kI K) := by
  have hq : prog[178]? = some pm178 := rfl
  refine Rn.of (L := [.ref 0, .int p0, .int p1]) hq rfl rfl ?_
  unfold w_178 at k
  refine Ex.seg hq 4 (j := 4) (L' := [.ref 0, .int p0, .int p1]) (S' := [.int p1, .int p0, .ref 1]) (h' := hpS s) rfl ?_
  refine Ex.cl hq rfl rfl ?_
  refine Rn.mono (q_9 (d := d + 0) p0 p1 s k) ?_
  rintro _ _ ⟨r2, s1, rfl, rfl, k⟩
  show Ex sc (d + 1) 178 5 [.ref 0, .int p0, .int p1] [.int r2] (hpS s1) _
  exact Ex.rt hq rfl rfl ⟨r2, s1, rfl, rfl, k⟩
/-- RowAuditor.within(III)Z -/
def w_181 (p0 : Int32) (p1 : Int32) (p2 : Int32) (s : ST) (K : Int32 → ST → Prop) : Prop := ((p0 < p1 → K (0 : Int32) s) ∧ (¬ (p0 < p1) → ((p2 < p0 → K (0 : Int32) s) ∧ (¬ (p2 < p0) → K (1 : Int32) s))))
theorem q_181 {d : Nat} {K : Int32 → ST → Prop} (p0 : Int32) (p1 : Int32) (p2 : Int32) (s : ST) (k : w_181 p0 p1 p2 s K) : Rn sc (d + 0) 181 [.int p0, .int p1, .int p2] (hpS s) (kZ K) := by
  have hq : prog[181]? = some pm181 := rfl
  refine Rn.of (L := [.int p0, .int p1, .int p2]) hq rfl rfl ?_
  unfold w_181 at k
  refine Ex.seg hq 2 (j := 2) (L' := [.int p0, .int p1, .int p2]) (S' := [.int p1, .int p0]) (h' := hpS s) rfl ?_
  refine Ex.i2 hq rfl (fun c => ?_) (fun c => ?_)
  · have k := k.1 c
    refine Ex.seg hq 1 (j := 9) (L' := [.int p0, .int p1, .int p2]) (S' := [.int (0 : Int32)]) (h' := hpS s) rfl ?_
    exact Ex.zr hq rfl rfl (Or.inl rfl) ⟨(0 : Int32), s, rfl, (Or.inl rfl), rfl, k⟩
  · have k := k.2 c
    refine Ex.seg hq 2 (j := 5) (L' := [.int p0, .int p1, .int p2]) (S' := [.int p2, .int p0]) (h' := hpS s) rfl ?_
    refine Ex.i2 hq rfl (fun c => ?_) (fun c => ?_)
    · have k := k.1 c
      refine Ex.seg hq 1 (j := 9) (L' := [.int p0, .int p1, .int p2]) (S' := [.int (0 : Int32)]) (h' := hpS s) rfl ?_
      exact Ex.zr hq rfl rfl (Or.inl rfl) ⟨(0 : Int32), s, rfl, (Or.inl rfl), rfl, k⟩
    · have k := k.2 c
      refine Ex.seg hq 2 (j := 9) (L' := [.int p0, .int p1, .int p2]) (S' := [.int (1 : Int32)]) (h' := hpS s) rfl ?_
      exact Ex.zr hq rfl rfl (Or.inr rfl) ⟨(1 : Int32), s, rfl, (Or.inr rfl), rfl, k⟩
/-- RowAuditor.isDay(I)Z -/
def w_182 (p0 : Int32) (s : ST) (K : Int32 → ST → Prop) : Prop := w_181 p0 (0 : Int32) (3999 : Int32) s (fun r2 s1 => K r2 s1)
theorem q_182 {d : Nat} {K : Int32 → ST → Prop} (p0 : Int32) (s : ST) (k : w_182 p0 s K) : Rn sc (d + 1) 182 [.int p0] (hpS s) (kZ K) := by
  have hq : prog[182]? = some pm182 := rfl
  refine Rn.of (L := [.int p0]) hq rfl rfl ?_
  unfold w_182 at k
  refine Ex.seg hq 3 (j := 3) (L' := [.int p0]) (S' := [.int (3999 : Int32), .int (0 : Int32), .int p0]) (h' := hpS s) rfl ?_
  refine Ex.cl hq rfl rfl ?_
  refine Rn.mono (q_181 (d := d + 0) p0 (0 : Int32) (3999 : Int32) s k) ?_
  rintro _ _ ⟨r2, s1, rfl, hzr2, rfl, k⟩
  show Ex sc (d + 1) 182 4 [.int p0] [.int r2] (hpS s1) _
  exact Ex.zr hq rfl rfl hzr2 ⟨r2, s1, rfl, hzr2, rfl, k⟩
/-- RowAuditor.isHand(I)Z -/
def w_183 (p0 : Int32) (s : ST) (K : Int32 → ST → Prop) : Prop := w_181 p0 (0 : Int32) (15 : Int32) s (fun r2 s1 => K r2 s1)
theorem q_183 {d : Nat} {K : Int32 → ST → Prop} (p0 : Int32) (s : ST) (k : w_183 p0 s K) : Rn sc (d + 1) 183 [.int p0] (hpS s) (kZ K) := by
  have hq : prog[183]? = some pm183 := rfl
  refine Rn.of (L := [.int p0]) hq rfl rfl ?_
  unfold w_183 at k
  refine Ex.seg hq 3 (j := 3) (L' := [.int p0]) (S' := [.int (15 : Int32), .int (0 : Int32), .int p0]) (h' := hpS s) rfl ?_
  refine Ex.cl hq rfl rfl ?_
  refine Rn.mono (q_181 (d := d + 0) p0 (0 : Int32) (15 : Int32) s k) ?_
  rintro _ _ ⟨r2, s1, rfl, hzr2, rfl, k⟩
  show Ex sc (d + 1) 183 4 [.int p0] [.int r2] (hpS s1) _
  exact Ex.zr hq rfl rfl hzr2 ⟨r2, s1, rfl, hzr2, rfl, k⟩
/-- RowAuditor.isIn(II)Z -/
def w_184 (p0 : Int32) (p1 : Int32) (s : ST) (K : Int32 → ST → Prop) : Prop := ((((p1 >>> (p0 &&& 31)) &&& (1 : Int32)) = 0 → K (0 : Int32) s) ∧ (¬ (((p1 >>> (p0 &&& 31)) &&& (1 : Int32)) = 0) → K (1 : Int32) s))
theorem q_184 {d : Nat} {K : Int32 → ST → Prop} (p0 : Int32) (p1 : Int32) (s : ST) (k : w_184 p0 p1 s K) : Rn sc (d + 0) 184 [.int p0, .int p1] (hpS s) (kZ K) := by
  have hq : prog[184]? = some pm184 := rfl
  refine Rn.of (L := [.int p0, .int p1]) hq rfl rfl ?_
  unfold w_184 at k
  refine Ex.seg hq 5 (j := 5) (L' := [.int p0, .int p1]) (S' := [.int ((p1 >>> (p0 &&& 31)) &&& (1 : Int32))]) (h' := hpS s) rfl ?_
  refine Ex.i1 hq rfl (fun c => ?_) (fun c => ?_)
  · have k := k.1 c
    refine Ex.seg hq 1 (j := 9) (L' := [.int p0, .int p1]) (S' := [.int (0 : Int32)]) (h' := hpS s) rfl ?_
    exact Ex.zr hq rfl rfl (Or.inl rfl) ⟨(0 : Int32), s, rfl, (Or.inl rfl), rfl, k⟩
  · have k := k.2 c
    refine Ex.seg hq 2 (j := 9) (L' := [.int p0, .int p1]) (S' := [.int (1 : Int32)]) (h' := hpS s) rfl ?_
    exact Ex.zr hq rfl rfl (Or.inr rfl) ⟨(1 : Int32), s, rfl, (Or.inr rfl), rfl, k⟩
/-- RowAuditorModel.in(III)Z -/
def w_186 (p0 : Int32) (p1 : Int32) (p2 : Int32) (s : ST) (K : Int32 → ST → Prop) : Prop := ((p0 < p1 → K (0 : Int32) s) ∧ (¬ (p0 < p1) → ((p2 < p0 → K (0 : Int32) s) ∧ (¬ (p2 < p0) → K (1 : Int32) s))))
theorem q_186 {d : Nat} {K : Int32 → ST → Prop} (p0 : Int32) (p1 : Int32) (p2 : Int32) (s : ST) (k : w_186 p0 p1 p2 s K) : Rn sc (d + 0) 186 [.int p0, .int p1, .int p2] (hpS s) (kZ K) := by
  have hq : prog[186]? = some pm186 := rfl
  refine Rn.of (L := [.int p0, .int p1, .int p2]) hq rfl rfl ?_
  unfold w_186 at k
  refine Ex.seg hq 2 (j := 2) (L' := [.int p0, .int p1, .int p2]) (S' := [.int p1, .int p0]) (h' := hpS s) rfl ?_
  refine Ex.i2 hq rfl (fun c => ?_) (fun c => ?_)
  · have k := k.1 c
    refine Ex.seg hq 1 (j := 9) (L' := [.int p0, .int p1, .int p2]) (S' := [.int (0 : Int32)]) (h' := hpS s) rfl ?_
    exact Ex.zr hq rfl rfl (Or.inl rfl) ⟨(0 : Int32), s, rfl, (Or.inl rfl), rfl, k⟩
  · have k := k.2 c
    refine Ex.seg hq 2 (j := 5) (L' := [.int p0, .int p1, .int p2]) (S' := [.int p2, .int p0]) (h' := hpS s) rfl ?_
    refine Ex.i2 hq rfl (fun c => ?_) (fun c => ?_)
    · have k := k.1 c
      refine Ex.seg hq 1 (j := 9) (L' := [.int p0, .int p1, .int p2]) (S' := [.int (0 : Int32)]) (h' := hpS s) rfl ?_
      exact Ex.zr hq rfl rfl (Or.inl rfl) ⟨(0 : Int32), s, rfl, (Or.inl rfl), rfl, k⟩
    · have k := k.2 c
      refine Ex.seg hq 2 (j := 9) (L' := [.int p0, .int p1, .int p2]) (S' := [.int (1 : Int32)]) (h' := hpS s) rfl ?_
      exact Ex.zr hq rfl rfl (Or.inr rfl) ⟨(1 : Int32), s, rfl, (Or.inr rfl), rfl, k⟩
/-- RowAuditorModel.isDay(I)Z -/
def w_187 (p0 : Int32) (s : ST) (K : Int32 → ST → Prop) : Prop := ((p0 < 0 → K (0 : Int32) s) ∧ (¬ (p0 < 0) → (((3999 : Int32) < p0 → K (0 : Int32) s) ∧ (¬ ((3999 : Int32) < p0) → K (1 : Int32) s))))
theorem q_187 {d : Nat} {K : Int32 → ST → Prop} (p0 : Int32) (s : ST) (k : w_187 p0 s K) : Rn sc (d + 0) 187 [.int p0] (hpS s) (kZ K) := by
  have hq : prog[187]? = some pm187 := rfl
  refine Rn.of (L := [.int p0]) hq rfl rfl ?_
  unfold w_187 at k
  refine Ex.seg hq 1 (j := 1) (L' := [.int p0]) (S' := [.int p0]) (h' := hpS s) rfl ?_
  refine Ex.i1 hq rfl (fun c => ?_) (fun c => ?_)
  · have k := k.1 c
    refine Ex.seg hq 1 (j := 8) (L' := [.int p0]) (S' := [.int (0 : Int32)]) (h' := hpS s) rfl ?_
    exact Ex.zr hq rfl rfl (Or.inl rfl) ⟨(0 : Int32), s, rfl, (Or.inl rfl), rfl, k⟩
  · have k := k.2 c
    refine Ex.seg hq 2 (j := 4) (L' := [.int p0]) (S' := [.int (3999 : Int32), .int p0]) (h' := hpS s) rfl ?_
    refine Ex.i2 hq rfl (fun c => ?_) (fun c => ?_)
    · have k := k.1 c
      refine Ex.seg hq 1 (j := 8) (L' := [.int p0]) (S' := [.int (0 : Int32)]) (h' := hpS s) rfl ?_
      exact Ex.zr hq rfl rfl (Or.inl rfl) ⟨(0 : Int32), s, rfl, (Or.inl rfl), rfl, k⟩
    · have k := k.2 c
      refine Ex.seg hq 2 (j := 8) (L' := [.int p0]) (S' := [.int (1 : Int32)]) (h' := hpS s) rfl ?_
      exact Ex.zr hq rfl rfl (Or.inr rfl) ⟨(1 : Int32), s, rfl, (Or.inr rfl), rfl, k⟩
/-- RowAuditorModel.now(I)Z -/
def w_188 (p0 : Int32) (s : ST) (K : Int32 → ST → Prop) : Prop := w_186 p0 (s.1 5500) (3999 : Int32) s (fun r2 s1 => ((¬ r2 = 0 → K (1 : Int32) (sI s1 5500 p0)) ∧ (¬ (¬ r2 = 0) → K (0 : Int32) s1)))
theorem q_188 {d : Nat} {K : Int32 → ST → Prop} (p0 : Int32) (s : ST) (k : w_188 p0 s K) : Rn sc (d + 1) 188 [.ref 55, .int p0] (hpS s) (kZ K) := by
  have hq : prog[188]? = some pm188 := rfl
  refine Rn.of (L := [.ref 55, .int p0]) hq rfl rfl ?_
  unfold w_188 at k
  refine Ex.seg hq 4 (j := 4) (L' := [.ref 55, .int p0]) (S' := [.int (3999 : Int32), .int (s.1 5500), .int p0]) (h' := hpS s) rfl ?_
  refine Ex.cl hq rfl rfl ?_
  refine Rn.mono (q_186 (d := d + 0) p0 (s.1 5500) (3999 : Int32) s k) ?_
  rintro _ _ ⟨r2, s1, rfl, hzr2, rfl, k⟩
  show Ex sc (d + 1) 188 5 [.ref 55, .int p0] [.int r2] (hpS s1) _
  refine Ex.i1 hq rfl (fun c => ?_) (fun c => ?_)
  · have k := k.1 c
    refine Ex.seg hq 4 (j := 12) (L' := [.ref 55, .int p0]) (S' := [.int (1 : Int32)]) (h' := hpS (sI s1 5500 p0)) rfl ?_
    exact Ex.zr hq rfl rfl (Or.inr rfl) ⟨(1 : Int32), (sI s1 5500 p0), rfl, (Or.inr rfl), rfl, k⟩
  · have k := k.2 c
    refine Ex.seg hq 1 (j := 7) (L' := [.ref 55, .int p0]) (S' := [.int (0 : Int32)]) (h' := hpS s1) rfl ?_
    exact Ex.zr hq rfl rfl (Or.inl rfl) ⟨(0 : Int32), s1, rfl, (Or.inl rfl), rfl, k⟩
/-- RowAuditorModel.isHouse(I)Z -/
def w_189 (p0 : Int32) (s : ST) (K : Int32 → ST → Prop) : Prop := ((p0 < 0 → K (0 : Int32) s) ∧ (¬ (p0 < 0) → (((s.1 5501) ≤ p0 → K (0 : Int32) s) ∧ (¬ ((s.1 5501) ≤ p0) → K (1 : Int32) s))))
theorem q_189 {d : Nat} {K : Int32 → ST → Prop} (p0 : Int32) (s : ST) (k : w_189 p0 s K) : Rn sc (d + 0) 189 [.ref 55, .int p0] (hpS s) (kZ K) := by
  have hq : prog[189]? = some pm189 := rfl
  refine Rn.of (L := [.ref 55, .int p0]) hq rfl rfl ?_
  unfold w_189 at k
  refine Ex.seg hq 1 (j := 1) (L' := [.ref 55, .int p0]) (S' := [.int p0]) (h' := hpS s) rfl ?_
  refine Ex.i1 hq rfl (fun c => ?_) (fun c => ?_)
  · have k := k.1 c
    refine Ex.seg hq 1 (j := 9) (L' := [.ref 55, .int p0]) (S' := [.int (0 : Int32)]) (h' := hpS s) rfl ?_
    exact Ex.zr hq rfl rfl (Or.inl rfl) ⟨(0 : Int32), s, rfl, (Or.inl rfl), rfl, k⟩
  · have k := k.2 c
    refine Ex.seg hq 3 (j := 5) (L' := [.ref 55, .int p0]) (S' := [.int (s.1 5501), .int p0]) (h' := hpS s) rfl ?_
    refine Ex.i2 hq rfl (fun c => ?_) (fun c => ?_)
    · have k := k.1 c
      refine Ex.seg hq 1 (j := 9) (L' := [.ref 55, .int p0]) (S' := [.int (0 : Int32)]) (h' := hpS s) rfl ?_
      exact Ex.zr hq rfl rfl (Or.inl rfl) ⟨(0 : Int32), s, rfl, (Or.inl rfl), rfl, k⟩
    · have k := k.2 c
      refine Ex.seg hq 2 (j := 9) (L' := [.ref 55, .int p0]) (S' := [.int (1 : Int32)]) (h' := hpS s) rfl ?_
      exact Ex.zr hq rfl rfl (Or.inr rfl) ⟨(1 : Int32), s, rfl, (Or.inr rfl), rfl, k⟩
/-- RowAuditorModel.isRow(I)Z -/
def w_190 (p0 : Int32) (s : ST) (K : Int32 → ST → Prop) : Prop := ((p0 < 0 → K (0 : Int32) s) ∧ (¬ (p0 < 0) → (((s.1 5502) ≤ p0 → K (0 : Int32) s) ∧ (¬ ((s.1 5502) ≤ p0) → K (1 : Int32) s))))
theorem q_190 {d : Nat} {K : Int32 → ST → Prop} (p0 : Int32) (s : ST) (k : w_190 p0 s K) : Rn sc (d + 0) 190 [.ref 55, .int p0] (hpS s) (kZ K) := by
  have hq : prog[190]? = some pm190 := rfl
  refine Rn.of (L := [.ref 55, .int p0]) hq rfl rfl ?_
  unfold w_190 at k
  refine Ex.seg hq 1 (j := 1) (L' := [.ref 55, .int p0]) (S' := [.int p0]) (h' := hpS s) rfl ?_
  refine Ex.i1 hq rfl (fun c => ?_) (fun c => ?_)
  · have k := k.1 c
    refine Ex.seg hq 1 (j := 9) (L' := [.ref 55, .int p0]) (S' := [.int (0 : Int32)]) (h' := hpS s) rfl ?_
    exact Ex.zr hq rfl rfl (Or.inl rfl) ⟨(0 : Int32), s, rfl, (Or.inl rfl), rfl, k⟩
  · have k := k.2 c
    refine Ex.seg hq 3 (j := 5) (L' := [.ref 55, .int p0]) (S' := [.int (s.1 5502), .int p0]) (h' := hpS s) rfl ?_
    refine Ex.i2 hq rfl (fun c => ?_) (fun c => ?_)
    · have k := k.1 c
      refine Ex.seg hq 1 (j := 9) (L' := [.ref 55, .int p0]) (S' := [.int (0 : Int32)]) (h' := hpS s) rfl ?_
      exact Ex.zr hq rfl rfl (Or.inl rfl) ⟨(0 : Int32), s, rfl, (Or.inl rfl), rfl, k⟩
    · have k := k.2 c
      refine Ex.seg hq 2 (j := 9) (L' := [.ref 55, .int p0]) (S' := [.int (1 : Int32)]) (h' := hpS s) rfl ?_
      exact Ex.zr hq rfl rfl (Or.inr rfl) ⟨(1 : Int32), s, rfl, (Or.inr rfl), rfl, k⟩
/-- RowAuditorModel.isHand(I)Z -/
def w_191 (p0 : Int32) (s : ST) (K : Int32 → ST → Prop) : Prop := ((p0 < 0 → K (0 : Int32) s) ∧ (¬ (p0 < 0) → (((16 : Int32) ≤ p0 → K (0 : Int32) s) ∧ (¬ ((16 : Int32) ≤ p0) → K (1 : Int32) s))))
theorem q_191 {d : Nat} {K : Int32 → ST → Prop} (p0 : Int32) (s : ST) (k : w_191 p0 s K) : Rn sc (d + 0) 191 [.int p0] (hpS s) (kZ K) := by
  have hq : prog[191]? = some pm191 := rfl
  refine Rn.of (L := [.int p0]) hq rfl rfl ?_
  unfold w_191 at k
  refine Ex.seg hq 1 (j := 1) (L' := [.int p0]) (S' := [.int p0]) (h' := hpS s) rfl ?_
  refine Ex.i1 hq rfl (fun c => ?_) (fun c => ?_)
  · have k := k.1 c
    refine Ex.seg hq 1 (j := 8) (L' := [.int p0]) (S' := [.int (0 : Int32)]) (h' := hpS s) rfl ?_
    exact Ex.zr hq rfl rfl (Or.inl rfl) ⟨(0 : Int32), s, rfl, (Or.inl rfl), rfl, k⟩
  · have k := k.2 c
    refine Ex.seg hq 2 (j := 4) (L' := [.int p0]) (S' := [.int (16 : Int32), .int p0]) (h' := hpS s) rfl ?_
    refine Ex.i2 hq rfl (fun c => ?_) (fun c => ?_)
    · have k := k.1 c
      refine Ex.seg hq 1 (j := 8) (L' := [.int p0]) (S' := [.int (0 : Int32)]) (h' := hpS s) rfl ?_
      exact Ex.zr hq rfl rfl (Or.inl rfl) ⟨(0 : Int32), s, rfl, (Or.inl rfl), rfl, k⟩
    · have k := k.2 c
      refine Ex.seg hq 2 (j := 8) (L' := [.int p0]) (S' := [.int (1 : Int32)]) (h' := hpS s) rfl ?_
      exact Ex.zr hq rfl rfl (Or.inr rfl) ⟨(1 : Int32), s, rfl, (Or.inr rfl), rfl, k⟩
/-- RowAuditorModel.house(I)I -/
def w_192 (p0 : Int32) (s : ST) (K : Int32 → ST → Prop) : Prop := w_186 p0 (0 : Int32) (1000000 : Int32) s (fun r2 s1 => ((r2 = 0 → K (-1 : Int32) s1) ∧ (¬ (r2 = 0) → ((¬ (s1.1 5501) = (10 : Int32) → (pin (s1.1 5501) 10 = true ∧ K (((s1.1 5501) + (1 : Int32)) - (1 : Int32)) (sA (sI s1 5501 ((s1.1 5501) + (1 : Int32))) 56 (upd (s1.2.1 56) ((s1.1 5501)).toNatClampNeg p0)))) ∧ (¬ (¬ (s1.1 5501) = (10 : Int32)) → K (-1 : Int32) s1)))))
theorem q_192 {d : Nat} {K : Int32 → ST → Prop} (p0 : Int32) (s : ST) (k : w_192 p0 s K) : Rn sc (d + 1) 192 [.ref 55, .int p0] (hpS s) (kI K) := by
  have hq : prog[192]? = some pm192 := rfl
  refine Rn.of (L := [.ref 55, .int p0]) hq rfl rfl ?_
  unfold w_192 at k
  refine Ex.seg hq 3 (j := 3) (L' := [.ref 55, .int p0]) (S' := [.int (1000000 : Int32), .int (0 : Int32), .int p0]) (h' := hpS s) rfl ?_
  refine Ex.cl hq rfl rfl ?_
  refine Rn.mono (q_186 (d := d + 0) p0 (0 : Int32) (1000000 : Int32) s k) ?_
  rintro _ _ ⟨r2, s1, rfl, hzr2, rfl, k⟩
  show Ex sc (d + 1) 192 4 [.ref 55, .int p0] [.int r2] (hpS s1) _
  refine Ex.i1 hq rfl (fun c => ?_) (fun c => ?_)
  · have k := k.1 c
    refine Ex.seg hq 1 (j := 10) (L' := [.ref 55, .int p0]) (S' := [.int (-1 : Int32)]) (h' := hpS s1) rfl ?_
    exact Ex.rt hq rfl rfl ⟨(-1 : Int32), s1, rfl, rfl, k⟩
  · have k := k.2 c
    refine Ex.seg hq 3 (j := 8) (L' := [.ref 55, .int p0]) (S' := [.int (10 : Int32), .int (s1.1 5501)]) (h' := hpS s1) rfl ?_
    refine Ex.i2 hq rfl (fun c => ?_) (fun c => ?_)
    · have k := k.1 c
      refine Ex.seg hq 5 (j := 16) (L' := [.ref 55, .int p0]) (S' := [.int p0, .int (s1.1 5501), .ref 56]) (h' := hpS s1) rfl ?_
      obtain ⟨hin, k⟩ := k
      refine Ex.ias hq rfl rfl hin (h' := hpS (sA s1 56 (upd (s1.2.1 56) ((s1.1 5501)).toNatClampNeg p0))) (hset_56 _ _) ?_
      refine Ex.seg hq 10 (j := 27) (L' := [.ref 55, .int p0]) (S' := [.int (((s1.1 5501) + (1 : Int32)) - (1 : Int32))]) (h' := hpS (sA (sI s1 5501 ((s1.1 5501) + (1 : Int32))) 56 (upd (s1.2.1 56) ((s1.1 5501)).toNatClampNeg p0))) rfl ?_
      exact Ex.rt hq rfl rfl ⟨(((s1.1 5501) + (1 : Int32)) - (1 : Int32)), (sA (sI s1 5501 ((s1.1 5501) + (1 : Int32))) 56 (upd (s1.2.1 56) ((s1.1 5501)).toNatClampNeg p0)), rfl, rfl, k⟩
    · have k := k.2 c
      refine Ex.seg hq 1 (j := 10) (L' := [.ref 55, .int p0]) (S' := [.int (-1 : Int32)]) (h' := hpS s1) rfl ?_
      exact Ex.rt hq rfl rfl ⟨(-1 : Int32), s1, rfl, rfl, k⟩
/-- RowAuditorModel.row(IIIIIIIII)I -/
def w_193 (p0 : Int32) (p1 : Int32) (p2 : Int32) (p3 : Int32) (p4 : Int32) (p5 : Int32) (p6 : Int32) (p7 : Int32) (p8 : Int32) (s : ST) (K : Int32 → ST → Prop) : Prop := w_186 p0 (0 : Int32) (3 : Int32) s (fun r2 s1 => ((r2 = 0 → K (-1 : Int32) s1) ∧ (¬ (r2 = 0) → w_189 p1 s1 (fun r4 s3 => ((r4 = 0 → K (-1 : Int32) s3) ∧ (¬ (r4 = 0) → w_186 p3 (0 : Int32) (s3.1 5500) s3 (fun r6 s5 => ((r6 = 0 → K (-1 : Int32) s5) ∧ (¬ (r6 = 0) → w_186 p4 (0 : Int32) (23 : Int32) s5 (fun r8 s7 => ((r8 = 0 → K (-1 : Int32) s7) ∧ (¬ (r8 = 0) → w_186 p5 (1 : Int32) (1000000 : Int32) s7 (fun r10 s9 => ((r10 = 0 → K (-1 : Int32) s9) ∧ (¬ (r10 = 0) → w_191 p6 s9 (fun r12 s11 => ((r12 = 0 → K (-1 : Int32) s11) ∧ (¬ (r12 = 0) → ((p7 = (-1 : Int32) → w_186 p8 (-1 : Int32) (99 : Int32) s11 (fun r14 s13 => ((r14 = 0 → K (-1 : Int32) s13) ∧ (¬ (r14 = 0) → ((¬ (s13.1 5502) = (150 : Int32) → ((¬ p0 = (2 : Int32) → ((¬ p0 = (3 : Int32) → w_186 p2 (0 : Int32) (19 : Int32) s13 (fun r16 s15 => ((¬ r16 = 0 → (pin (s15.1 5502) 150 = true ∧ (pin (s15.1 5502) 150 = true ∧ (pin (s15.1 5502) 150 = true ∧ (pin (s15.1 5502) 150 = true ∧ (pin (s15.1 5502) 150 = true ∧ (pin (s15.1 5502) 150 = true ∧ (pin (s15.1 5502) 150 = true ∧ (pin (s15.1 5502) 150 = true ∧ (pin (s15.1 5502) 150 = true ∧ (pin (s15.1 5502) 150 = true ∧ (pin (s15.1 5502) 150 = true ∧ K (((s15.1 5502) + (1 : Int32)) - (1 : Int32)) (sA (sA (sA (sA (sA (sA (sA (sA (sA (sA (sA (sI s15 5502 ((s15.1 5502) + (1 : Int32))) 57 (upd (s15.2.1 57) ((s15.1 5502)).toNatClampNeg p0)) 58 (upd (s15.2.1 58) ((s15.1 5502)).toNatClampNeg p1)) 59 (upd (s15.2.1 59) ((s15.1 5502)).toNatClampNeg p2)) 60 (upd (s15.2.1 60) ((s15.1 5502)).toNatClampNeg p3)) 61 (upd (s15.2.1 61) ((s15.1 5502)).toNatClampNeg p4)) 62 (upd (s15.2.1 62) ((s15.1 5502)).toNatClampNeg p5)) 63 (upd (s15.2.1 63) ((s15.1 5502)).toNatClampNeg p6)) 64 (upd (s15.2.1 64) ((s15.1 5502)).toNatClampNeg p7)) 65 (upd (s15.2.1 65) ((s15.1 5502)).toNatClampNeg p8)) 66 (upd (s15.2.1 66) ((s15.1 5502)).toNatClampNeg (s15.1 5500))) 67 (upd (s15.2.1 67) ((s15.1 5502)).toNatClampNeg (-1 : Int32))))))))))))))) ∧ (¬ (¬ r16 = 0) → K (-1 : Int32) s15)))) ∧ (¬ (¬ p0 = (3 : Int32)) → ((p2 = (-1 : Int32) → (pin (s13.1 5502) 150 = true ∧ (pin (s13.1 5502) 150 = true ∧ (pin (s13.1 5502) 150 = true ∧ (pin (s13.1 5502) 150 = true ∧ (pin (s13.1 5502) 150 = true ∧ (pin (s13.1 5502) 150 = true ∧ (pin (s13.1 5502) 150 = true ∧ (pin (s13.1 5502) 150 = true ∧ (pin (s13.1 5502) 150 = true ∧ (pin (s13.1 5502) 150 = true ∧ (pin (s13.1 5502) 150 = true ∧ K (((s13.1 5502) + (1 : Int32)) - (1 : Int32)) (sA (sA (sA (sA (sA (sA (sA (sA (sA (sA (sA (sI s13 5502 ((s13.1 5502) + (1 : Int32))) 57 (upd (s13.2.1 57) ((s13.1 5502)).toNatClampNeg p0)) 58 (upd (s13.2.1 58) ((s13.1 5502)).toNatClampNeg p1)) 59 (upd (s13.2.1 59) ((s13.1 5502)).toNatClampNeg p2)) 60 (upd (s13.2.1 60) ((s13.1 5502)).toNatClampNeg p3)) 61 (upd (s13.2.1 61) ((s13.1 5502)).toNatClampNeg p4)) 62 (upd (s13.2.1 62) ((s13.1 5502)).toNatClampNeg p5)) 63 (upd (s13.2.1 63) ((s13.1 5502)).toNatClampNeg p6)) 64 (upd (s13.2.1 64) ((s13.1 5502)).toNatClampNeg p7)) 65 (upd (s13.2.1 65) ((s13.1 5502)).toNatClampNeg p8)) 66 (upd (s13.2.1 66) ((s13.1 5502)).toNatClampNeg (s13.1 5500))) 67 (upd (s13.2.1 67) ((s13.1 5502)).toNatClampNeg (-1 : Int32))))))))))))))) ∧ (¬ (p2 = (-1 : Int32)) → K (-1 : Int32) s13))))) ∧ (¬ (¬ p0 = (2 : Int32)) → w_189 p2 s13 (fun r18 s17 => ((r18 = 0 → K (-1 : Int32) s17) ∧ (¬ (r18 = 0) → ((¬ p2 = p1 → (pin (s17.1 5502) 150 = true ∧ (pin (s17.1 5502) 150 = true ∧ (pin (s17.1 5502) 150 = true ∧ (pin (s17.1 5502) 150 = true ∧ (pin (s17.1 5502) 150 = true ∧ (pin (s17.1 5502) 150 = true ∧ (pin (s17.1 5502) 150 = true ∧ (pin (s17.1 5502) 150 = true ∧ (pin (s17.1 5502) 150 = true ∧ (pin (s17.1 5502) 150 = true ∧ (pin (s17.1 5502) 150 = true ∧ K (((s17.1 5502) + (1 : Int32)) - (1 : Int32)) (sA (sA (sA (sA (sA (sA (sA (sA (sA (sA (sA (sI s17 5502 ((s17.1 5502) + (1 : Int32))) 57 (upd (s17.2.1 57) ((s17.1 5502)).toNatClampNeg p0)) 58 (upd (s17.2.1 58) ((s17.1 5502)).toNatClampNeg p1)) 59 (upd (s17.2.1 59) ((s17.1 5502)).toNatClampNeg p2)) 60 (upd (s17.2.1 60) ((s17.1 5502)).toNatClampNeg p3)) 61 (upd (s17.2.1 61) ((s17.1 5502)).toNatClampNeg p4)) 62 (upd (s17.2.1 62) ((s17.1 5502)).toNatClampNeg p5)) 63 (upd (s17.2.1 63) ((s17.1 5502)).toNatClampNeg p6)) 64 (upd (s17.2.1 64) ((s17.1 5502)).toNatClampNeg p7)) 65 (upd (s17.2.1 65) ((s17.1 5502)).toNatClampNeg p8)) 66 (upd (s17.2.1 66) ((s17.1 5502)).toNatClampNeg (s17.1 5500))) 67 (upd (s17.2.1 67) ((s17.1 5502)).toNatClampNeg (-1 : Int32))))))))))))))) ∧ (¬ (¬ p2 = p1) → K (-1 : Int32) s17)))))))) ∧ (¬ (¬ (s13.1 5502) = (150 : Int32)) → K (-1 : Int32) s13)))))) ∧ (¬ (p7 = (-1 : Int32)) → w_191 p7 s11 (fun r20 s19 => ((r20 = 0 → K (-1 : Int32) s19) ∧ (¬ (r20 = 0) → ((p7 = p6 → K (-1 : Int32) s19) ∧ (¬ (p7 = p6) → w_186 p8 (-1 : Int32) (99 : Int32) s19 (fun r22 s21 => ((r22 = 0 → K (-1 : Int32) s21) ∧ (¬ (r22 = 0) → ((¬ (s21.1 5502) = (150 : Int32) → ((¬ p0 = (2 : Int32) → ((¬ p0 = (3 : Int32) → w_186 p2 (0 : Int32) (19 : Int32) s21 (fun r24 s23 => ((¬ r24 = 0 → (pin (s23.1 5502) 150 = true ∧ (pin (s23.1 5502) 150 = true ∧ (pin (s23.1 5502) 150 = true ∧ (pin (s23.1 5502) 150 = true ∧ (pin (s23.1 5502) 150 = true ∧ (pin (s23.1 5502) 150 = true ∧ (pin (s23.1 5502) 150 = true ∧ (pin (s23.1 5502) 150 = true ∧ (pin (s23.1 5502) 150 = true ∧ (pin (s23.1 5502) 150 = true ∧ (pin (s23.1 5502) 150 = true ∧ K (((s23.1 5502) + (1 : Int32)) - (1 : Int32)) (sA (sA (sA (sA (sA (sA (sA (sA (sA (sA (sA (sI s23 5502 ((s23.1 5502) + (1 : Int32))) 57 (upd (s23.2.1 57) ((s23.1 5502)).toNatClampNeg p0)) 58 (upd (s23.2.1 58) ((s23.1 5502)).toNatClampNeg p1)) 59 (upd (s23.2.1 59) ((s23.1 5502)).toNatClampNeg p2)) 60 (upd (s23.2.1 60) ((s23.1 5502)).toNatClampNeg p3)) 61 (upd (s23.2.1 61) ((s23.1 5502)).toNatClampNeg p4)) 62 (upd (s23.2.1 62) ((s23.1 5502)).toNatClampNeg p5)) 63 (upd (s23.2.1 63) ((s23.1 5502)).toNatClampNeg p6)) 64 (upd (s23.2.1 64) ((s23.1 5502)).toNatClampNeg p7)) 65 (upd (s23.2.1 65) ((s23.1 5502)).toNatClampNeg p8)) 66 (upd (s23.2.1 66) ((s23.1 5502)).toNatClampNeg (s23.1 5500))) 67 (upd (s23.2.1 67) ((s23.1 5502)).toNatClampNeg (-1 : Int32))))))))))))))) ∧ (¬ (¬ r24 = 0) → K (-1 : Int32) s23)))) ∧ (¬ (¬ p0 = (3 : Int32)) → ((p2 = (-1 : Int32) → (pin (s21.1 5502) 150 = true ∧ (pin (s21.1 5502) 150 = true ∧ (pin (s21.1 5502) 150 = true ∧ (pin (s21.1 5502) 150 = true ∧ (pin (s21.1 5502) 150 = true ∧ (pin (s21.1 5502) 150 = true ∧ (pin (s21.1 5502) 150 = true ∧ (pin (s21.1 5502) 150 = true ∧ (pin (s21.1 5502) 150 = true ∧ (pin (s21.1 5502) 150 = true ∧ (pin (s21.1 5502) 150 = true ∧ K (((s21.1 5502) + (1 : Int32)) - (1 : Int32)) (sA (sA (sA (sA (sA (sA (sA (sA (sA (sA (sA (sI s21 5502 ((s21.1 5502) + (1 : Int32))) 57 (upd (s21.2.1 57) ((s21.1 5502)).toNatClampNeg p0)) 58 (upd (s21.2.1 58) ((s21.1 5502)).toNatClampNeg p1)) 59 (upd (s21.2.1 59) ((s21.1 5502)).toNatClampNeg p2)) 60 (upd (s21.2.1 60) ((s21.1 5502)).toNatClampNeg p3)) 61 (upd (s21.2.1 61) ((s21.1 5502)).toNatClampNeg p4)) 62 (upd (s21.2.1 62) ((s21.1 5502)).toNatClampNeg p5)) 63 (upd (s21.2.1 63) ((s21.1 5502)).toNatClampNeg p6)) 64 (upd (s21.2.1 64) ((s21.1 5502)).toNatClampNeg p7)) 65 (upd (s21.2.1 65) ((s21.1 5502)).toNatClampNeg p8)) 66 (upd (s21.2.1 66) ((s21.1 5502)).toNatClampNeg (s21.1 5500))) 67 (upd (s21.2.1 67) ((s21.1 5502)).toNatClampNeg (-1 : Int32))))))))))))))) ∧ (¬ (p2 = (-1 : Int32)) → K (-1 : Int32) s21))))) ∧ (¬ (¬ p0 = (2 : Int32)) → w_189 p2 s21 (fun r26 s25 => ((r26 = 0 → K (-1 : Int32) s25) ∧ (¬ (r26 = 0) → ((¬ p2 = p1 → (pin (s25.1 5502) 150 = true ∧ (pin (s25.1 5502) 150 = true ∧ (pin (s25.1 5502) 150 = true ∧ (pin (s25.1 5502) 150 = true ∧ (pin (s25.1 5502) 150 = true ∧ (pin (s25.1 5502) 150 = true ∧ (pin (s25.1 5502) 150 = true ∧ (pin (s25.1 5502) 150 = true ∧ (pin (s25.1 5502) 150 = true ∧ (pin (s25.1 5502) 150 = true ∧ (pin (s25.1 5502) 150 = true ∧ K (((s25.1 5502) + (1 : Int32)) - (1 : Int32)) (sA (sA (sA (sA (sA (sA (sA (sA (sA (sA (sA (sI s25 5502 ((s25.1 5502) + (1 : Int32))) 57 (upd (s25.2.1 57) ((s25.1 5502)).toNatClampNeg p0)) 58 (upd (s25.2.1 58) ((s25.1 5502)).toNatClampNeg p1)) 59 (upd (s25.2.1 59) ((s25.1 5502)).toNatClampNeg p2)) 60 (upd (s25.2.1 60) ((s25.1 5502)).toNatClampNeg p3)) 61 (upd (s25.2.1 61) ((s25.1 5502)).toNatClampNeg p4)) 62 (upd (s25.2.1 62) ((s25.1 5502)).toNatClampNeg p5)) 63 (upd (s25.2.1 63) ((s25.1 5502)).toNatClampNeg p6)) 64 (upd (s25.2.1 64) ((s25.1 5502)).toNatClampNeg p7)) 65 (upd (s25.2.1 65) ((s25.1 5502)).toNatClampNeg p8)) 66 (upd (s25.2.1 66) ((s25.1 5502)).toNatClampNeg (s25.1 5500))) 67 (upd (s25.2.1 67) ((s25.1 5502)).toNatClampNeg (-1 : Int32))))))))))))))) ∧ (¬ (¬ p2 = p1) → K (-1 : Int32) s25)))))))) ∧ (¬ (¬ (s21.1 5502) = (150 : Int32)) → K (-1 : Int32) s21))))))))))))))))))))))))))))))
theorem q_193 {d : Nat} {K : Int32 → ST → Prop} (p0 : Int32) (p1 : Int32) (p2 : Int32) (p3 : Int32) (p4 : Int32) (p5 : Int32) (p6 : Int32) (p7 : Int32) (p8 : Int32) (s : ST) (k : w_193 p0 p1 p2 p3 p4 p5 p6 p7 p8 s K) : Rn sc (d + 1) 193 [.ref 55, .int p0, .int p1, .int p2, .int p3, .int p4, .int p5, .int p6, .int p7, .int p8] (hpS s) (kI K) := by
  have hq : prog[193]? = some pm193 := rfl
  refine Rn.of (L := [.ref 55, .int p0, .int p1, .int p2, .int p3, .int p4, .int p5, .int p6, .int p7, .int p8]) hq rfl rfl ?_
  unfold w_193 at k
  refine Ex.seg hq 3 (j := 3) (L' := [.ref 55, .int p0, .int p1, .int p2, .int p3, .int p4, .int p5, .int p6, .int p7, .int p8]) (S' := [.int (3 : Int32), .int (0 : Int32), .int p0]) (h' := hpS s) rfl ?_
  refine Ex.cl hq rfl rfl ?_
  refine Rn.mono (q_186 (d := d + 0) p0 (0 : Int32) (3 : Int32) s k) ?_
  rintro _ _ ⟨r2, s1, rfl, hzr2, rfl, k⟩
  show Ex sc (d + 1) 193 4 [.ref 55, .int p0, .int p1, .int p2, .int p3, .int p4, .int p5, .int p6, .int p7, .int p8] [.int r2] (hpS s1) _
  refine Ex.i1 hq rfl (fun c => ?_) (fun c => ?_)
  · have k := k.1 c
    refine Ex.seg hq 1 (j := 47) (L' := [.ref 55, .int p0, .int p1, .int p2, .int p3, .int p4, .int p5, .int p6, .int p7, .int p8]) (S' := [.int (-1 : Int32)]) (h' := hpS s1) rfl ?_
    exact Ex.rt hq rfl rfl ⟨(-1 : Int32), s1, rfl, rfl, k⟩
  · have k := k.2 c
    refine Ex.seg hq 2 (j := 7) (L' := [.ref 55, .int p0, .int p1, .int p2, .int p3, .int p4, .int p5, .int p6, .int p7, .int p8]) (S' := [.int p1, .ref 55]) (h' := hpS s1) rfl ?_
    refine Ex.cl hq rfl rfl ?_
    refine Rn.mono (q_189 (d := d + 0) p1 s1 k) ?_
    rintro _ _ ⟨r4, s3, rfl, hzr4, rfl, k⟩
    show Ex sc (d + 1) 193 8 [.ref 55, .int p0, .int p1, .int p2, .int p3, .int p4, .int p5, .int p6, .int p7, .int p8] [.int r4] (hpS s3) _
    refine Ex.i1 hq rfl (fun c => ?_) (fun c => ?_)
    · have k := k.1 c
      refine Ex.seg hq 1 (j := 47) (L' := [.ref 55, .int p0, .int p1, .int p2, .int p3, .int p4, .int p5, .int p6, .int p7, .int p8]) (S' := [.int (-1 : Int32)]) (h' := hpS s3) rfl ?_
      exact Ex.rt hq rfl rfl ⟨(-1 : Int32), s3, rfl, rfl, k⟩
    · have k := k.2 c
      refine Ex.seg hq 4 (j := 13) (L' := [.ref 55, .int p0, .int p1, .int p2, .int p3, .int p4, .int p5, .int p6, .int p7, .int p8]) (S' := [.int (s3.1 5500), .int (0 : Int32), .int p3]) (h' := hpS s3) rfl ?_
      refine Ex.cl hq rfl rfl ?_
      refine Rn.mono (q_186 (d := d + 0) p3 (0 : Int32) (s3.1 5500) s3 k) ?_
      rintro _ _ ⟨r6, s5, rfl, hzr6, rfl, k⟩
      show Ex sc (d + 1) 193 14 [.ref 55, .int p0, .int p1, .int p2, .int p3, .int p4, .int p5, .int p6, .int p7, .int p8] [.int r6] (hpS s5) _
      refine Ex.i1 hq rfl (fun c => ?_) (fun c => ?_)
      · have k := k.1 c
        refine Ex.seg hq 1 (j := 47) (L' := [.ref 55, .int p0, .int p1, .int p2, .int p3, .int p4, .int p5, .int p6, .int p7, .int p8]) (S' := [.int (-1 : Int32)]) (h' := hpS s5) rfl ?_
        exact Ex.rt hq rfl rfl ⟨(-1 : Int32), s5, rfl, rfl, k⟩
      · have k := k.2 c
        refine Ex.seg hq 3 (j := 18) (L' := [.ref 55, .int p0, .int p1, .int p2, .int p3, .int p4, .int p5, .int p6, .int p7, .int p8]) (S' := [.int (23 : Int32), .int (0 : Int32), .int p4]) (h' := hpS s5) rfl ?_
        refine Ex.cl hq rfl rfl ?_
        refine Rn.mono (q_186 (d := d + 0) p4 (0 : Int32) (23 : Int32) s5 k) ?_
        rintro _ _ ⟨r8, s7, rfl, hzr8, rfl, k⟩
        show Ex sc (d + 1) 193 19 [.ref 55, .int p0, .int p1, .int p2, .int p3, .int p4, .int p5, .int p6, .int p7, .int p8] [.int r8] (hpS s7) _
        refine Ex.i1 hq rfl (fun c => ?_) (fun c => ?_)
        · have k := k.1 c
          refine Ex.seg hq 1 (j := 47) (L' := [.ref 55, .int p0, .int p1, .int p2, .int p3, .int p4, .int p5, .int p6, .int p7, .int p8]) (S' := [.int (-1 : Int32)]) (h' := hpS s7) rfl ?_
          exact Ex.rt hq rfl rfl ⟨(-1 : Int32), s7, rfl, rfl, k⟩
        · have k := k.2 c
          refine Ex.seg hq 3 (j := 23) (L' := [.ref 55, .int p0, .int p1, .int p2, .int p3, .int p4, .int p5, .int p6, .int p7, .int p8]) (S' := [.int (1000000 : Int32), .int (1 : Int32), .int p5]) (h' := hpS s7) rfl ?_
          refine Ex.cl hq rfl rfl ?_
          refine Rn.mono (q_186 (d := d + 0) p5 (1 : Int32) (1000000 : Int32) s7 k) ?_
          rintro _ _ ⟨r10, s9, rfl, hzr10, rfl, k⟩
          show Ex sc (d + 1) 193 24 [.ref 55, .int p0, .int p1, .int p2, .int p3, .int p4, .int p5, .int p6, .int p7, .int p8] [.int r10] (hpS s9) _
          refine Ex.i1 hq rfl (fun c => ?_) (fun c => ?_)
          · have k := k.1 c
            refine Ex.seg hq 1 (j := 47) (L' := [.ref 55, .int p0, .int p1, .int p2, .int p3, .int p4, .int p5, .int p6, .int p7, .int p8]) (S' := [.int (-1 : Int32)]) (h' := hpS s9) rfl ?_
            exact Ex.rt hq rfl rfl ⟨(-1 : Int32), s9, rfl, rfl, k⟩
          · have k := k.2 c
            refine Ex.seg hq 1 (j := 26) (L' := [.ref 55, .int p0, .int p1, .int p2, .int p3, .int p4, .int p5, .int p6, .int p7, .int p8]) (S' := [.int p6]) (h' := hpS s9) rfl ?_
            refine Ex.cl hq rfl rfl ?_
            refine Rn.mono (q_191 (d := d + 0) p6 s9 k) ?_
            rintro _ _ ⟨r12, s11, rfl, hzr12, rfl, k⟩
            show Ex sc (d + 1) 193 27 [.ref 55, .int p0, .int p1, .int p2, .int p3, .int p4, .int p5, .int p6, .int p7, .int p8] [.int r12] (hpS s11) _
            refine Ex.i1 hq rfl (fun c => ?_) (fun c => ?_)
            · have k := k.1 c
              refine Ex.seg hq 1 (j := 47) (L' := [.ref 55, .int p0, .int p1, .int p2, .int p3, .int p4, .int p5, .int p6, .int p7, .int p8]) (S' := [.int (-1 : Int32)]) (h' := hpS s11) rfl ?_
              exact Ex.rt hq rfl rfl ⟨(-1 : Int32), s11, rfl, rfl, k⟩
            · have k := k.2 c
              refine Ex.seg hq 2 (j := 30) (L' := [.ref 55, .int p0, .int p1, .int p2, .int p3, .int p4, .int p5, .int p6, .int p7, .int p8]) (S' := [.int (-1 : Int32), .int p7]) (h' := hpS s11) rfl ?_
              refine Ex.i2 hq rfl (fun c => ?_) (fun c => ?_)
              · have k := k.1 c
                refine Ex.seg hq 3 (j := 40) (L' := [.ref 55, .int p0, .int p1, .int p2, .int p3, .int p4, .int p5, .int p6, .int p7, .int p8]) (S' := [.int (99 : Int32), .int (-1 : Int32), .int p8]) (h' := hpS s11) rfl ?_
                refine Ex.cl hq rfl rfl ?_
                refine Rn.mono (q_186 (d := d + 0) p8 (-1 : Int32) (99 : Int32) s11 k) ?_
                rintro _ _ ⟨r14, s13, rfl, hzr14, rfl, k⟩
                show Ex sc (d + 1) 193 41 [.ref 55, .int p0, .int p1, .int p2, .int p3, .int p4, .int p5, .int p6, .int p7, .int p8] [.int r14] (hpS s13) _
                refine Ex.i1 hq rfl (fun c => ?_) (fun c => ?_)
                · have k := k.1 c
                  refine Ex.seg hq 1 (j := 47) (L' := [.ref 55, .int p0, .int p1, .int p2, .int p3, .int p4, .int p5, .int p6, .int p7, .int p8]) (S' := [.int (-1 : Int32)]) (h' := hpS s13) rfl ?_
                  exact Ex.rt hq rfl rfl ⟨(-1 : Int32), s13, rfl, rfl, k⟩
                · have k := k.2 c
                  refine Ex.seg hq 3 (j := 45) (L' := [.ref 55, .int p0, .int p1, .int p2, .int p3, .int p4, .int p5, .int p6, .int p7, .int p8]) (S' := [.int (150 : Int32), .int (s13.1 5502)]) (h' := hpS s13) rfl ?_
                  refine Ex.i2 hq rfl (fun c => ?_) (fun c => ?_)
                  · have k := k.1 c
                    refine Ex.seg hq 2 (j := 50) (L' := [.ref 55, .int p0, .int p1, .int p2, .int p3, .int p4, .int p5, .int p6, .int p7, .int p8]) (S' := [.int (2 : Int32), .int p0]) (h' := hpS s13) rfl ?_
                    refine Ex.i2 hq rfl (fun c => ?_) (fun c => ?_)
                    · have k := k.1 c
                      refine Ex.seg hq 2 (j := 61) (L' := [.ref 55, .int p0, .int p1, .int p2, .int p3, .int p4, .int p5, .int p6, .int p7, .int p8]) (S' := [.int (3 : Int32), .int p0]) (h' := hpS s13) rfl ?_
                      refine Ex.i2 hq rfl (fun c => ?_) (fun c => ?_)
                      · have k := k.1 c
                        refine Ex.seg hq 3 (j := 69) (L' := [.ref 55, .int p0, .int p1, .int p2, .int p3, .int p4, .int p5, .int p6, .int p7, .int p8]) (S' := [.int (19 : Int32), .int (0 : Int32), .int p2]) (h' := hpS s13) rfl ?_
                        refine Ex.cl hq rfl rfl ?_
                        refine Rn.mono (q_186 (d := d + 0) p2 (0 : Int32) (19 : Int32) s13 k) ?_
                        rintro _ _ ⟨r16, s15, rfl, hzr16, rfl, k⟩
                        show Ex sc (d + 1) 193 70 [.ref 55, .int p0, .int p1, .int p2, .int p3, .int p4, .int p5, .int p6, .int p7, .int p8] [.int r16] (hpS s15) _
                        refine Ex.i1 hq rfl (fun c => ?_) (fun c => ?_)
                        · have k := k.1 c
                          refine Ex.seg hq 5 (j := 78) (L' := [.ref 55, .int p0, .int p1, .int p2, .int p3, .int p4, .int p5, .int p6, .int p7, .int p8]) (S' := [.int p0, .int (s15.1 5502), .ref 57]) (h' := hpS s15) rfl ?_
                          obtain ⟨hin, k⟩ := k
                          refine Ex.ias hq rfl rfl hin (h' := hpS (sA s15 57 (upd (s15.2.1 57) ((s15.1 5502)).toNatClampNeg p0))) (hset_57 _ _) ?_
                          refine Ex.seg hq 5 (j := 84) (L' := [.ref 55, .int p0, .int p1, .int p2, .int p3, .int p4, .int p5, .int p6, .int p7, .int p8]) (S' := [.int p1, .int (s15.1 5502), .ref 58]) (h' := hpS (sA s15 57 (upd (s15.2.1 57) ((s15.1 5502)).toNatClampNeg p0))) rfl ?_
                          obtain ⟨hin, k⟩ := k
                          refine Ex.ias hq rfl rfl hin (h' := hpS (sA (sA s15 57 (upd (s15.2.1 57) ((s15.1 5502)).toNatClampNeg p0)) 58 (upd (s15.2.1 58) ((s15.1 5502)).toNatClampNeg p1))) (hset_58 _ _) ?_
                          refine Ex.seg hq 5 (j := 90) (L' := [.ref 55, .int p0, .int p1, .int p2, .int p3, .int p4, .int p5, .int p6, .int p7, .int p8]) (S' := [.int p2, .int (s15.1 5502), .ref 59]) (h' := hpS (sA (sA s15 57 (upd (s15.2.1 57) ((s15.1 5502)).toNatClampNeg p0)) 58 (upd (s15.2.1 58) ((s15.1 5502)).toNatClampNeg p1))) rfl ?_
                          obtain ⟨hin, k⟩ := k
                          refine Ex.ias hq rfl rfl hin (h' := hpS (sA (sA (sA s15 57 (upd (s15.2.1 57) ((s15.1 5502)).toNatClampNeg p0)) 58 (upd (s15.2.1 58) ((s15.1 5502)).toNatClampNeg p1)) 59 (upd (s15.2.1 59) ((s15.1 5502)).toNatClampNeg p2))) (hset_59 _ _) ?_
                          refine Ex.seg hq 5 (j := 96) (L' := [.ref 55, .int p0, .int p1, .int p2, .int p3, .int p4, .int p5, .int p6, .int p7, .int p8]) (S' := [.int p3, .int (s15.1 5502), .ref 60]) (h' := hpS (sA (sA (sA s15 57 (upd (s15.2.1 57) ((s15.1 5502)).toNatClampNeg p0)) 58 (upd (s15.2.1 58) ((s15.1 5502)).toNatClampNeg p1)) 59 (upd (s15.2.1 59) ((s15.1 5502)).toNatClampNeg p2))) rfl ?_
                          obtain ⟨hin, k⟩ := k
                          refine Ex.ias hq rfl rfl hin (h' := hpS (sA (sA (sA (sA s15 57 (upd (s15.2.1 57) ((s15.1 5502)).toNatClampNeg p0)) 58 (upd (s15.2.1 58) ((s15.1 5502)).toNatClampNeg p1)) 59 (upd (s15.2.1 59) ((s15.1 5502)).toNatClampNeg p2)) 60 (upd (s15.2.1 60) ((s15.1 5502)).toNatClampNeg p3))) (hset_60 _ _) ?_
                          refine Ex.seg hq 5 (j := 102) (L' := [.ref 55, .int p0, .int p1, .int p2, .int p3, .int p4, .int p5, .int p6, .int p7, .int p8]) (S' := [.int p4, .int (s15.1 5502), .ref 61]) (h' := hpS (sA (sA (sA (sA s15 57 (upd (s15.2.1 57) ((s15.1 5502)).toNatClampNeg p0)) 58 (upd (s15.2.1 58) ((s15.1 5502)).toNatClampNeg p1)) 59 (upd (s15.2.1 59) ((s15.1 5502)).toNatClampNeg p2)) 60 (upd (s15.2.1 60) ((s15.1 5502)).toNatClampNeg p3))) rfl ?_
                          obtain ⟨hin, k⟩ := k
                          refine Ex.ias hq rfl rfl hin (h' := hpS (sA (sA (sA (sA (sA s15 57 (upd (s15.2.1 57) ((s15.1 5502)).toNatClampNeg p0)) 58 (upd (s15.2.1 58) ((s15.1 5502)).toNatClampNeg p1)) 59 (upd (s15.2.1 59) ((s15.1 5502)).toNatClampNeg p2)) 60 (upd (s15.2.1 60) ((s15.1 5502)).toNatClampNeg p3)) 61 (upd (s15.2.1 61) ((s15.1 5502)).toNatClampNeg p4))) (hset_61 _ _) ?_
                          refine Ex.seg hq 5 (j := 108) (L' := [.ref 55, .int p0, .int p1, .int p2, .int p3, .int p4, .int p5, .int p6, .int p7, .int p8]) (S' := [.int p5, .int (s15.1 5502), .ref 62]) (h' := hpS (sA (sA (sA (sA (sA s15 57 (upd (s15.2.1 57) ((s15.1 5502)).toNatClampNeg p0)) 58 (upd (s15.2.1 58) ((s15.1 5502)).toNatClampNeg p1)) 59 (upd (s15.2.1 59) ((s15.1 5502)).toNatClampNeg p2)) 60 (upd (s15.2.1 60) ((s15.1 5502)).toNatClampNeg p3)) 61 (upd (s15.2.1 61) ((s15.1 5502)).toNatClampNeg p4))) rfl ?_
                          obtain ⟨hin, k⟩ := k
                          refine Ex.ias hq rfl rfl hin (h' := hpS (sA (sA (sA (sA (sA (sA s15 57 (upd (s15.2.1 57) ((s15.1 5502)).toNatClampNeg p0)) 58 (upd (s15.2.1 58) ((s15.1 5502)).toNatClampNeg p1)) 59 (upd (s15.2.1 59) ((s15.1 5502)).toNatClampNeg p2)) 60 (upd (s15.2.1 60) ((s15.1 5502)).toNatClampNeg p3)) 61 (upd (s15.2.1 61) ((s15.1 5502)).toNatClampNeg p4)) 62 (upd (s15.2.1 62) ((s15.1 5502)).toNatClampNeg p5))) (hset_62 _ _) ?_
                          refine Ex.seg hq 5 (j := 114) (L' := [.ref 55, .int p0, .int p1, .int p2, .int p3, .int p4, .int p5, .int p6, .int p7, .int p8]) (S' := [.int p6, .int (s15.1 5502), .ref 63]) (h' := hpS (sA (sA (sA (sA (sA (sA s15 57 (upd (s15.2.1 57) ((s15.1 5502)).toNatClampNeg p0)) 58 (upd (s15.2.1 58) ((s15.1 5502)).toNatClampNeg p1)) 59 (upd (s15.2.1 59) ((s15.1 5502)).toNatClampNeg p2)) 60 (upd (s15.2.1 60) ((s15.1 5502)).toNatClampNeg p3)) 61 (upd (s15.2.1 61) ((s15.1 5502)).toNatClampNeg p4)) 62 (upd (s15.2.1 62) ((s15.1 5502)).toNatClampNeg p5))) rfl ?_
                          obtain ⟨hin, k⟩ := k
                          refine Ex.ias hq rfl rfl hin (h' := hpS (sA (sA (sA (sA (sA (sA (sA s15 57 (upd (s15.2.1 57) ((s15.1 5502)).toNatClampNeg p0)) 58 (upd (s15.2.1 58) ((s15.1 5502)).toNatClampNeg p1)) 59 (upd (s15.2.1 59) ((s15.1 5502)).toNatClampNeg p2)) 60 (upd (s15.2.1 60) ((s15.1 5502)).toNatClampNeg p3)) 61 (upd (s15.2.1 61) ((s15.1 5502)).toNatClampNeg p4)) 62 (upd (s15.2.1 62) ((s15.1 5502)).toNatClampNeg p5)) 63 (upd (s15.2.1 63) ((s15.1 5502)).toNatClampNeg p6))) (hset_63 _ _) ?_
                          refine Ex.seg hq 5 (j := 120) (L' := [.ref 55, .int p0, .int p1, .int p2, .int p3, .int p4, .int p5, .int p6, .int p7, .int p8]) (S' := [.int p7, .int (s15.1 5502), .ref 64]) (h' := hpS (sA (sA (sA (sA (sA (sA (sA s15 57 (upd (s15.2.1 57) ((s15.1 5502)).toNatClampNeg p0)) 58 (upd (s15.2.1 58) ((s15.1 5502)).toNatClampNeg p1)) 59 (upd (s15.2.1 59) ((s15.1 5502)).toNatClampNeg p2)) 60 (upd (s15.2.1 60) ((s15.1 5502)).toNatClampNeg p3)) 61 (upd (s15.2.1 61) ((s15.1 5502)).toNatClampNeg p4)) 62 (upd (s15.2.1 62) ((s15.1 5502)).toNatClampNeg p5)) 63 (upd (s15.2.1 63) ((s15.1 5502)).toNatClampNeg p6))) rfl ?_
                          obtain ⟨hin, k⟩ := k
                          refine Ex.ias hq rfl rfl hin (h' := hpS (sA (sA (sA (sA (sA (sA (sA (sA s15 57 (upd (s15.2.1 57) ((s15.1 5502)).toNatClampNeg p0)) 58 (upd (s15.2.1 58) ((s15.1 5502)).toNatClampNeg p1)) 59 (upd (s15.2.1 59) ((s15.1 5502)).toNatClampNeg p2)) 60 (upd (s15.2.1 60) ((s15.1 5502)).toNatClampNeg p3)) 61 (upd (s15.2.1 61) ((s15.1 5502)).toNatClampNeg p4)) 62 (upd (s15.2.1 62) ((s15.1 5502)).toNatClampNeg p5)) 63 (upd (s15.2.1 63) ((s15.1 5502)).toNatClampNeg p6)) 64 (upd (s15.2.1 64) ((s15.1 5502)).toNatClampNeg p7))) (hset_64 _ _) ?_
                          refine Ex.seg hq 5 (j := 126) (L' := [.ref 55, .int p0, .int p1, .int p2, .int p3, .int p4, .int p5, .int p6, .int p7, .int p8]) (S' := [.int p8, .int (s15.1 5502), .ref 65]) (h' := hpS (sA (sA (sA (sA (sA (sA (sA (sA s15 57 (upd (s15.2.1 57) ((s15.1 5502)).toNatClampNeg p0)) 58 (upd (s15.2.1 58) ((s15.1 5502)).toNatClampNeg p1)) 59 (upd (s15.2.1 59) ((s15.1 5502)).toNatClampNeg p2)) 60 (upd (s15.2.1 60) ((s15.1 5502)).toNatClampNeg p3)) 61 (upd (s15.2.1 61) ((s15.1 5502)).toNatClampNeg p4)) 62 (upd (s15.2.1 62) ((s15.1 5502)).toNatClampNeg p5)) 63 (upd (s15.2.1 63) ((s15.1 5502)).toNatClampNeg p6)) 64 (upd (s15.2.1 64) ((s15.1 5502)).toNatClampNeg p7))) rfl ?_
                          obtain ⟨hin, k⟩ := k
                          refine Ex.ias hq rfl rfl hin (h' := hpS (sA (sA (sA (sA (sA (sA (sA (sA (sA s15 57 (upd (s15.2.1 57) ((s15.1 5502)).toNatClampNeg p0)) 58 (upd (s15.2.1 58) ((s15.1 5502)).toNatClampNeg p1)) 59 (upd (s15.2.1 59) ((s15.1 5502)).toNatClampNeg p2)) 60 (upd (s15.2.1 60) ((s15.1 5502)).toNatClampNeg p3)) 61 (upd (s15.2.1 61) ((s15.1 5502)).toNatClampNeg p4)) 62 (upd (s15.2.1 62) ((s15.1 5502)).toNatClampNeg p5)) 63 (upd (s15.2.1 63) ((s15.1 5502)).toNatClampNeg p6)) 64 (upd (s15.2.1 64) ((s15.1 5502)).toNatClampNeg p7)) 65 (upd (s15.2.1 65) ((s15.1 5502)).toNatClampNeg p8))) (hset_65 _ _) ?_
                          refine Ex.seg hq 6 (j := 133) (L' := [.ref 55, .int p0, .int p1, .int p2, .int p3, .int p4, .int p5, .int p6, .int p7, .int p8]) (S' := [.int (s15.1 5500), .int (s15.1 5502), .ref 66]) (h' := hpS (sA (sA (sA (sA (sA (sA (sA (sA (sA s15 57 (upd (s15.2.1 57) ((s15.1 5502)).toNatClampNeg p0)) 58 (upd (s15.2.1 58) ((s15.1 5502)).toNatClampNeg p1)) 59 (upd (s15.2.1 59) ((s15.1 5502)).toNatClampNeg p2)) 60 (upd (s15.2.1 60) ((s15.1 5502)).toNatClampNeg p3)) 61 (upd (s15.2.1 61) ((s15.1 5502)).toNatClampNeg p4)) 62 (upd (s15.2.1 62) ((s15.1 5502)).toNatClampNeg p5)) 63 (upd (s15.2.1 63) ((s15.1 5502)).toNatClampNeg p6)) 64 (upd (s15.2.1 64) ((s15.1 5502)).toNatClampNeg p7)) 65 (upd (s15.2.1 65) ((s15.1 5502)).toNatClampNeg p8))) rfl ?_
                          obtain ⟨hin, k⟩ := k
                          refine Ex.ias hq rfl rfl hin (h' := hpS (sA (sA (sA (sA (sA (sA (sA (sA (sA (sA s15 57 (upd (s15.2.1 57) ((s15.1 5502)).toNatClampNeg p0)) 58 (upd (s15.2.1 58) ((s15.1 5502)).toNatClampNeg p1)) 59 (upd (s15.2.1 59) ((s15.1 5502)).toNatClampNeg p2)) 60 (upd (s15.2.1 60) ((s15.1 5502)).toNatClampNeg p3)) 61 (upd (s15.2.1 61) ((s15.1 5502)).toNatClampNeg p4)) 62 (upd (s15.2.1 62) ((s15.1 5502)).toNatClampNeg p5)) 63 (upd (s15.2.1 63) ((s15.1 5502)).toNatClampNeg p6)) 64 (upd (s15.2.1 64) ((s15.1 5502)).toNatClampNeg p7)) 65 (upd (s15.2.1 65) ((s15.1 5502)).toNatClampNeg p8)) 66 (upd (s15.2.1 66) ((s15.1 5502)).toNatClampNeg (s15.1 5500)))) (hset_66 _ _) ?_
                          refine Ex.seg hq 5 (j := 139) (L' := [.ref 55, .int p0, .int p1, .int p2, .int p3, .int p4, .int p5, .int p6, .int p7, .int p8]) (S' := [.int (-1 : Int32), .int (s15.1 5502), .ref 67]) (h' := hpS (sA (sA (sA (sA (sA (sA (sA (sA (sA (sA s15 57 (upd (s15.2.1 57) ((s15.1 5502)).toNatClampNeg p0)) 58 (upd (s15.2.1 58) ((s15.1 5502)).toNatClampNeg p1)) 59 (upd (s15.2.1 59) ((s15.1 5502)).toNatClampNeg p2)) 60 (upd (s15.2.1 60) ((s15.1 5502)).toNatClampNeg p3)) 61 (upd (s15.2.1 61) ((s15.1 5502)).toNatClampNeg p4)) 62 (upd (s15.2.1 62) ((s15.1 5502)).toNatClampNeg p5)) 63 (upd (s15.2.1 63) ((s15.1 5502)).toNatClampNeg p6)) 64 (upd (s15.2.1 64) ((s15.1 5502)).toNatClampNeg p7)) 65 (upd (s15.2.1 65) ((s15.1 5502)).toNatClampNeg p8)) 66 (upd (s15.2.1 66) ((s15.1 5502)).toNatClampNeg (s15.1 5500)))) rfl ?_
                          obtain ⟨hin, k⟩ := k
                          refine Ex.ias hq rfl rfl hin (h' := hpS (sA (sA (sA (sA (sA (sA (sA (sA (sA (sA (sA s15 57 (upd (s15.2.1 57) ((s15.1 5502)).toNatClampNeg p0)) 58 (upd (s15.2.1 58) ((s15.1 5502)).toNatClampNeg p1)) 59 (upd (s15.2.1 59) ((s15.1 5502)).toNatClampNeg p2)) 60 (upd (s15.2.1 60) ((s15.1 5502)).toNatClampNeg p3)) 61 (upd (s15.2.1 61) ((s15.1 5502)).toNatClampNeg p4)) 62 (upd (s15.2.1 62) ((s15.1 5502)).toNatClampNeg p5)) 63 (upd (s15.2.1 63) ((s15.1 5502)).toNatClampNeg p6)) 64 (upd (s15.2.1 64) ((s15.1 5502)).toNatClampNeg p7)) 65 (upd (s15.2.1 65) ((s15.1 5502)).toNatClampNeg p8)) 66 (upd (s15.2.1 66) ((s15.1 5502)).toNatClampNeg (s15.1 5500))) 67 (upd (s15.2.1 67) ((s15.1 5502)).toNatClampNeg (-1 : Int32)))) (hset_67 _ _) ?_
                          refine Ex.seg hq 10 (j := 150) (L' := [.ref 55, .int p0, .int p1, .int p2, .int p3, .int p4, .int p5, .int p6, .int p7, .int p8]) (S' := [.int (((s15.1 5502) + (1 : Int32)) - (1 : Int32))]) (h' := hpS (sA (sA (sA (sA (sA (sA (sA (sA (sA (sA (sA (sI s15 5502 ((s15.1 5502) + (1 : Int32))) 57 (upd (s15.2.1 57) ((s15.1 5502)).toNatClampNeg p0)) 58 (upd (s15.2.1 58) ((s15.1 5502)).toNatClampNeg p1)) 59 (upd (s15.2.1 59) ((s15.1 5502)).toNatClampNeg p2)) 60 (upd (s15.2.1 60) ((s15.1 5502)).toNatClampNeg p3)) 61 (upd (s15.2.1 61) ((s15.1 5502)).toNatClampNeg p4)) 62 (upd (s15.2.1 62) ((s15.1 5502)).toNatClampNeg p5)) 63 (upd (s15.2.1 63) ((s15.1 5502)).toNatClampNeg p6)) 64 (upd (s15.2.1 64) ((s15.1 5502)).toNatClampNeg p7)) 65 (upd (s15.2.1 65) ((s15.1 5502)).toNatClampNeg p8)) 66 (upd (s15.2.1 66) ((s15.1 5502)).toNatClampNeg (s15.1 5500))) 67 (upd (s15.2.1 67) ((s15.1 5502)).toNatClampNeg (-1 : Int32)))) rfl ?_
                          exact Ex.rt hq rfl rfl ⟨(((s15.1 5502) + (1 : Int32)) - (1 : Int32)), (sA (sA (sA (sA (sA (sA (sA (sA (sA (sA (sA (sI s15 5502 ((s15.1 5502) + (1 : Int32))) 57 (upd (s15.2.1 57) ((s15.1 5502)).toNatClampNeg p0)) 58 (upd (s15.2.1 58) ((s15.1 5502)).toNatClampNeg p1)) 59 (upd (s15.2.1 59) ((s15.1 5502)).toNatClampNeg p2)) 60 (upd (s15.2.1 60) ((s15.1 5502)).toNatClampNeg p3)) 61 (upd (s15.2.1 61) ((s15.1 5502)).toNatClampNeg p4)) 62 (upd (s15.2.1 62) ((s15.1 5502)).toNatClampNeg p5)) 63 (upd (s15.2.1 63) ((s15.1 5502)).toNatClampNeg p6)) 64 (upd (s15.2.1 64) ((s15.1 5502)).toNatClampNeg p7)) 65 (upd (s15.2.1 65) ((s15.1 5502)).toNatClampNeg p8)) 66 (upd (s15.2.1 66) ((s15.1 5502)).toNatClampNeg (s15.1 5500))) 67 (upd (s15.2.1 67) ((s15.1 5502)).toNatClampNeg (-1 : Int32))), rfl, rfl, k⟩
                        · have k := k.2 c
                          refine Ex.seg hq 1 (j := 72) (L' := [.ref 55, .int p0, .int p1, .int p2, .int p3, .int p4, .int p5, .int p6, .int p7, .int p8]) (S' := [.int (-1 : Int32)]) (h' := hpS s15) rfl ?_
                          exact Ex.rt hq rfl rfl ⟨(-1 : Int32), s15, rfl, rfl, k⟩
                      · have k := k.2 c
                        refine Ex.seg hq 2 (j := 64) (L' := [.ref 55, .int p0, .int p1, .int p2, .int p3, .int p4, .int p5, .int p6, .int p7, .int p8]) (S' := [.int (-1 : Int32), .int p2]) (h' := hpS s13) rfl ?_
                        refine Ex.i2 hq rfl (fun c => ?_) (fun c => ?_)
                        · have k := k.1 c
                          refine Ex.seg hq 5 (j := 78) (L' := [.ref 55, .int p0, .int p1, .int p2, .int p3, .int p4, .int p5, .int p6, .int p7, .int p8]) (S' := [.int p0, .int (s13.1 5502), .ref 57]) (h' := hpS s13) rfl ?_
                          obtain ⟨hin, k⟩ := k
                          refine Ex.ias hq rfl rfl hin (h' := hpS (sA s13 57 (upd (s13.2.1 57) ((s13.1 5502)).toNatClampNeg p0))) (hset_57 _ _) ?_
                          refine Ex.seg hq 5 (j := 84) (L' := [.ref 55, .int p0, .int p1, .int p2, .int p3, .int p4, .int p5, .int p6, .int p7, .int p8]) (S' := [.int p1, .int (s13.1 5502), .ref 58]) (h' := hpS (sA s13 57 (upd (s13.2.1 57) ((s13.1 5502)).toNatClampNeg p0))) rfl ?_
                          obtain ⟨hin, k⟩ := k
                          refine Ex.ias hq rfl rfl hin (h' := hpS (sA (sA s13 57 (upd (s13.2.1 57) ((s13.1 5502)).toNatClampNeg p0)) 58 (upd (s13.2.1 58) ((s13.1 5502)).toNatClampNeg p1))) (hset_58 _ _) ?_
                          refine Ex.seg hq 5 (j := 90) (L' := [.ref 55, .int p0, .int p1, .int p2, .int p3, .int p4, .int p5, .int p6, .int p7, .int p8]) (S' := [.int p2, .int (s13.1 5502), .ref 59]) (h' := hpS (sA (sA s13 57 (upd (s13.2.1 57) ((s13.1 5502)).toNatClampNeg p0)) 58 (upd (s13.2.1 58) ((s13.1 5502)).toNatClampNeg p1))) rfl ?_
                          obtain ⟨hin, k⟩ := k
                          refine Ex.ias hq rfl rfl hin (h' := hpS (sA (sA (sA s13 57 (upd (s13.2.1 57) ((s13.1 5502)).toNatClampNeg p0)) 58 (upd (s13.2.1 58) ((s13.1 5502)).toNatClampNeg p1)) 59 (upd (s13.2.1 59) ((s13.1 5502)).toNatClampNeg p2))) (hset_59 _ _) ?_
                          refine Ex.seg hq 5 (j := 96) (L' := [.ref 55, .int p0, .int p1, .int p2, .int p3, .int p4, .int p5, .int p6, .int p7, .int p8]) (S' := [.int p3, .int (s13.1 5502), .ref 60]) (h' := hpS (sA (sA (sA s13 57 (upd (s13.2.1 57) ((s13.1 5502)).toNatClampNeg p0)) 58 (upd (s13.2.1 58) ((s13.1 5502)).toNatClampNeg p1)) 59 (upd (s13.2.1 59) ((s13.1 5502)).toNatClampNeg p2))) rfl ?_
                          obtain ⟨hin, k⟩ := k
                          refine Ex.ias hq rfl rfl hin (h' := hpS (sA (sA (sA (sA s13 57 (upd (s13.2.1 57) ((s13.1 5502)).toNatClampNeg p0)) 58 (upd (s13.2.1 58) ((s13.1 5502)).toNatClampNeg p1)) 59 (upd (s13.2.1 59) ((s13.1 5502)).toNatClampNeg p2)) 60 (upd (s13.2.1 60) ((s13.1 5502)).toNatClampNeg p3))) (hset_60 _ _) ?_
                          refine Ex.seg hq 5 (j := 102) (L' := [.ref 55, .int p0, .int p1, .int p2, .int p3, .int p4, .int p5, .int p6, .int p7, .int p8]) (S' := [.int p4, .int (s13.1 5502), .ref 61]) (h' := hpS (sA (sA (sA (sA s13 57 (upd (s13.2.1 57) ((s13.1 5502)).toNatClampNeg p0)) 58 (upd (s13.2.1 58) ((s13.1 5502)).toNatClampNeg p1)) 59 (upd (s13.2.1 59) ((s13.1 5502)).toNatClampNeg p2)) 60 (upd (s13.2.1 60) ((s13.1 5502)).toNatClampNeg p3))) rfl ?_
                          obtain ⟨hin, k⟩ := k
                          refine Ex.ias hq rfl rfl hin (h' := hpS (sA (sA (sA (sA (sA s13 57 (upd (s13.2.1 57) ((s13.1 5502)).toNatClampNeg p0)) 58 (upd (s13.2.1 58) ((s13.1 5502)).toNatClampNeg p1)) 59 (upd (s13.2.1 59) ((s13.1 5502)).toNatClampNeg p2)) 60 (upd (s13.2.1 60) ((s13.1 5502)).toNatClampNeg p3)) 61 (upd (s13.2.1 61) ((s13.1 5502)).toNatClampNeg p4))) (hset_61 _ _) ?_
                          refine Ex.seg hq 5 (j := 108) (L' := [.ref 55, .int p0, .int p1, .int p2, .int p3, .int p4, .int p5, .int p6, .int p7, .int p8]) (S' := [.int p5, .int (s13.1 5502), .ref 62]) (h' := hpS (sA (sA (sA (sA (sA s13 57 (upd (s13.2.1 57) ((s13.1 5502)).toNatClampNeg p0)) 58 (upd (s13.2.1 58) ((s13.1 5502)).toNatClampNeg p1)) 59 (upd (s13.2.1 59) ((s13.1 5502)).toNatClampNeg p2)) 60 (upd (s13.2.1 60) ((s13.1 5502)).toNatClampNeg p3)) 61 (upd (s13.2.1 61) ((s13.1 5502)).toNatClampNeg p4))) rfl ?_
                          obtain ⟨hin, k⟩ := k
                          refine Ex.ias hq rfl rfl hin (h' := hpS (sA (sA (sA (sA (sA (sA s13 57 (upd (s13.2.1 57) ((s13.1 5502)).toNatClampNeg p0)) 58 (upd (s13.2.1 58) ((s13.1 5502)).toNatClampNeg p1)) 59 (upd (s13.2.1 59) ((s13.1 5502)).toNatClampNeg p2)) 60 (upd (s13.2.1 60) ((s13.1 5502)).toNatClampNeg p3)) 61 (upd (s13.2.1 61) ((s13.1 5502)).toNatClampNeg p4)) 62 (upd (s13.2.1 62) ((s13.1 5502)).toNatClampNeg p5))) (hset_62 _ _) ?_
                          refine Ex.seg hq 5 (j := 114) (L' := [.ref 55, .int p0, .int p1, .int p2, .int p3, .int p4, .int p5, .int p6, .int p7, .int p8]) (S' := [.int p6, .int (s13.1 5502), .ref 63]) (h' := hpS (sA (sA (sA (sA (sA (sA s13 57 (upd (s13.2.1 57) ((s13.1 5502)).toNatClampNeg p0)) 58 (upd (s13.2.1 58) ((s13.1 5502)).toNatClampNeg p1)) 59 (upd (s13.2.1 59) ((s13.1 5502)).toNatClampNeg p2)) 60 (upd (s13.2.1 60) ((s13.1 5502)).toNatClampNeg p3)) 61 (upd (s13.2.1 61) ((s13.1 5502)).toNatClampNeg p4)) 62 (upd (s13.2.1 62) ((s13.1 5502)).toNatClampNeg p5))) rfl ?_
                          obtain ⟨hin, k⟩ := k
                          refine Ex.ias hq rfl rfl hin (h' := hpS (sA (sA (sA (sA (sA (sA (sA s13 57 (upd (s13.2.1 57) ((s13.1 5502)).toNatClampNeg p0)) 58 (upd (s13.2.1 58) ((s13.1 5502)).toNatClampNeg p1)) 59 (upd (s13.2.1 59) ((s13.1 5502)).toNatClampNeg p2)) 60 (upd (s13.2.1 60) ((s13.1 5502)).toNatClampNeg p3)) 61 (upd (s13.2.1 61) ((s13.1 5502)).toNatClampNeg p4)) 62 (upd (s13.2.1 62) ((s13.1 5502)).toNatClampNeg p5)) 63 (upd (s13.2.1 63) ((s13.1 5502)).toNatClampNeg p6))) (hset_63 _ _) ?_
                          refine Ex.seg hq 5 (j := 120) (L' := [.ref 55, .int p0, .int p1, .int p2, .int p3, .int p4, .int p5, .int p6, .int p7, .int p8]) (S' := [.int p7, .int (s13.1 5502), .ref 64]) (h' := hpS (sA (sA (sA (sA (sA (sA (sA s13 57 (upd (s13.2.1 57) ((s13.1 5502)).toNatClampNeg p0)) 58 (upd (s13.2.1 58) ((s13.1 5502)).toNatClampNeg p1)) 59 (upd (s13.2.1 59) ((s13.1 5502)).toNatClampNeg p2)) 60 (upd (s13.2.1 60) ((s13.1 5502)).toNatClampNeg p3)) 61 (upd (s13.2.1 61) ((s13.1 5502)).toNatClampNeg p4)) 62 (upd (s13.2.1 62) ((s13.1 5502)).toNatClampNeg p5)) 63 (upd (s13.2.1 63) ((s13.1 5502)).toNatClampNeg p6))) rfl ?_
                          obtain ⟨hin, k⟩ := k
                          refine Ex.ias hq rfl rfl hin (h' := hpS (sA (sA (sA (sA (sA (sA (sA (sA s13 57 (upd (s13.2.1 57) ((s13.1 5502)).toNatClampNeg p0)) 58 (upd (s13.2.1 58) ((s13.1 5502)).toNatClampNeg p1)) 59 (upd (s13.2.1 59) ((s13.1 5502)).toNatClampNeg p2)) 60 (upd (s13.2.1 60) ((s13.1 5502)).toNatClampNeg p3)) 61 (upd (s13.2.1 61) ((s13.1 5502)).toNatClampNeg p4)) 62 (upd (s13.2.1 62) ((s13.1 5502)).toNatClampNeg p5)) 63 (upd (s13.2.1 63) ((s13.1 5502)).toNatClampNeg p6)) 64 (upd (s13.2.1 64) ((s13.1 5502)).toNatClampNeg p7))) (hset_64 _ _) ?_
                          refine Ex.seg hq 5 (j := 126) (L' := [.ref 55, .int p0, .int p1, .int p2, .int p3, .int p4, .int p5, .int p6, .int p7, .int p8]) (S' := [.int p8, .int (s13.1 5502), .ref 65]) (h' := hpS (sA (sA (sA (sA (sA (sA (sA (sA s13 57 (upd (s13.2.1 57) ((s13.1 5502)).toNatClampNeg p0)) 58 (upd (s13.2.1 58) ((s13.1 5502)).toNatClampNeg p1)) 59 (upd (s13.2.1 59) ((s13.1 5502)).toNatClampNeg p2)) 60 (upd (s13.2.1 60) ((s13.1 5502)).toNatClampNeg p3)) 61 (upd (s13.2.1 61) ((s13.1 5502)).toNatClampNeg p4)) 62 (upd (s13.2.1 62) ((s13.1 5502)).toNatClampNeg p5)) 63 (upd (s13.2.1 63) ((s13.1 5502)).toNatClampNeg p6)) 64 (upd (s13.2.1 64) ((s13.1 5502)).toNatClampNeg p7))) rfl ?_
                          obtain ⟨hin, k⟩ := k
                          refine Ex.ias hq rfl rfl hin (h' := hpS (sA (sA (sA (sA (sA (sA (sA (sA (sA s13 57 (upd (s13.2.1 57) ((s13.1 5502)).toNatClampNeg p0)) 58 (upd (s13.2.1 58) ((s13.1 5502)).toNatClampNeg p1)) 59 (upd (s13.2.1 59) ((s13.1 5502)).toNatClampNeg p2)) 60 (upd (s13.2.1 60) ((s13.1 5502)).toNatClampNeg p3)) 61 (upd (s13.2.1 61) ((s13.1 5502)).toNatClampNeg p4)) 62 (upd (s13.2.1 62) ((s13.1 5502)).toNatClampNeg p5)) 63 (upd (s13.2.1 63) ((s13.1 5502)).toNatClampNeg p6)) 64 (upd (s13.2.1 64) ((s13.1 5502)).toNatClampNeg p7)) 65 (upd (s13.2.1 65) ((s13.1 5502)).toNatClampNeg p8))) (hset_65 _ _) ?_
                          refine Ex.seg hq 6 (j := 133) (L' := [.ref 55, .int p0, .int p1, .int p2, .int p3, .int p4, .int p5, .int p6, .int p7, .int p8]) (S' := [.int (s13.1 5500), .int (s13.1 5502), .ref 66]) (h' := hpS (sA (sA (sA (sA (sA (sA (sA (sA (sA s13 57 (upd (s13.2.1 57) ((s13.1 5502)).toNatClampNeg p0)) 58 (upd (s13.2.1 58) ((s13.1 5502)).toNatClampNeg p1)) 59 (upd (s13.2.1 59) ((s13.1 5502)).toNatClampNeg p2)) 60 (upd (s13.2.1 60) ((s13.1 5502)).toNatClampNeg p3)) 61 (upd (s13.2.1 61) ((s13.1 5502)).toNatClampNeg p4)) 62 (upd (s13.2.1 62) ((s13.1 5502)).toNatClampNeg p5)) 63 (upd (s13.2.1 63) ((s13.1 5502)).toNatClampNeg p6)) 64 (upd (s13.2.1 64) ((s13.1 5502)).toNatClampNeg p7)) 65 (upd (s13.2.1 65) ((s13.1 5502)).toNatClampNeg p8))) rfl ?_
                          obtain ⟨hin, k⟩ := k
                          refine Ex.ias hq rfl rfl hin (h' := hpS (sA (sA (sA (sA (sA (sA (sA (sA (sA (sA s13 57 (upd (s13.2.1 57) ((s13.1 5502)).toNatClampNeg p0)) 58 (upd (s13.2.1 58) ((s13.1 5502)).toNatClampNeg p1)) 59 (upd (s13.2.1 59) ((s13.1 5502)).toNatClampNeg p2)) 60 (upd (s13.2.1 60) ((s13.1 5502)).toNatClampNeg p3)) 61 (upd (s13.2.1 61) ((s13.1 5502)).toNatClampNeg p4)) 62 (upd (s13.2.1 62) ((s13.1 5502)).toNatClampNeg p5)) 63 (upd (s13.2.1 63) ((s13.1 5502)).toNatClampNeg p6)) 64 (upd (s13.2.1 64) ((s13.1 5502)).toNatClampNeg p7)) 65 (upd (s13.2.1 65) ((s13.1 5502)).toNatClampNeg p8)) 66 (upd (s13.2.1 66) ((s13.1 5502)).toNatClampNeg (s13.1 5500)))) (hset_66 _ _) ?_
                          refine Ex.seg hq 5 (j := 139) (L' := [.ref 55, .int p0, .int p1, .int p2, .int p3, .int p4, .int p5, .int p6, .int p7, .int p8]) (S' := [.int (-1 : Int32), .int (s13.1 5502), .ref 67]) (h' := hpS (sA (sA (sA (sA (sA (sA (sA (sA (sA (sA s13 57 (upd (s13.2.1 57) ((s13.1 5502)).toNatClampNeg p0)) 58 (upd (s13.2.1 58) ((s13.1 5502)).toNatClampNeg p1)) 59 (upd (s13.2.1 59) ((s13.1 5502)).toNatClampNeg p2)) 60 (upd (s13.2.1 60) ((s13.1 5502)).toNatClampNeg p3)) 61 (upd (s13.2.1 61) ((s13.1 5502)).toNatClampNeg p4)) 62 (upd (s13.2.1 62) ((s13.1 5502)).toNatClampNeg p5)) 63 (upd (s13.2.1 63) ((s13.1 5502)).toNatClampNeg p6)) 64 (upd (s13.2.1 64) ((s13.1 5502)).toNatClampNeg p7)) 65 (upd (s13.2.1 65) ((s13.1 5502)).toNatClampNeg p8)) 66 (upd (s13.2.1 66) ((s13.1 5502)).toNatClampNeg (s13.1 5500)))) rfl ?_
                          obtain ⟨hin, k⟩ := k
                          refine Ex.ias hq rfl rfl hin (h' := hpS (sA (sA (sA (sA (sA (sA (sA (sA (sA (sA (sA s13 57 (upd (s13.2.1 57) ((s13.1 5502)).toNatClampNeg p0)) 58 (upd (s13.2.1 58) ((s13.1 5502)).toNatClampNeg p1)) 59 (upd (s13.2.1 59) ((s13.1 5502)).toNatClampNeg p2)) 60 (upd (s13.2.1 60) ((s13.1 5502)).toNatClampNeg p3)) 61 (upd (s13.2.1 61) ((s13.1 5502)).toNatClampNeg p4)) 62 (upd (s13.2.1 62) ((s13.1 5502)).toNatClampNeg p5)) 63 (upd (s13.2.1 63) ((s13.1 5502)).toNatClampNeg p6)) 64 (upd (s13.2.1 64) ((s13.1 5502)).toNatClampNeg p7)) 65 (upd (s13.2.1 65) ((s13.1 5502)).toNatClampNeg p8)) 66 (upd (s13.2.1 66) ((s13.1 5502)).toNatClampNeg (s13.1 5500))) 67 (upd (s13.2.1 67) ((s13.1 5502)).toNatClampNeg (-1 : Int32)))) (hset_67 _ _) ?_
                          refine Ex.seg hq 10 (j := 150) (L' := [.ref 55, .int p0, .int p1, .int p2, .int p3, .int p4, .int p5, .int p6, .int p7, .int p8]) (S' := [.int (((s13.1 5502) + (1 : Int32)) - (1 : Int32))]) (h' := hpS (sA (sA (sA (sA (sA (sA (sA (sA (sA (sA (sA (sI s13 5502 ((s13.1 5502) + (1 : Int32))) 57 (upd (s13.2.1 57) ((s13.1 5502)).toNatClampNeg p0)) 58 (upd (s13.2.1 58) ((s13.1 5502)).toNatClampNeg p1)) 59 (upd (s13.2.1 59) ((s13.1 5502)).toNatClampNeg p2)) 60 (upd (s13.2.1 60) ((s13.1 5502)).toNatClampNeg p3)) 61 (upd (s13.2.1 61) ((s13.1 5502)).toNatClampNeg p4)) 62 (upd (s13.2.1 62) ((s13.1 5502)).toNatClampNeg p5)) 63 (upd (s13.2.1 63) ((s13.1 5502)).toNatClampNeg p6)) 64 (upd (s13.2.1 64) ((s13.1 5502)).toNatClampNeg p7)) 65 (upd (s13.2.1 65) ((s13.1 5502)).toNatClampNeg p8)) 66 (upd (s13.2.1 66) ((s13.1 5502)).toNatClampNeg (s13.1 5500))) 67 (upd (s13.2.1 67) ((s13.1 5502)).toNatClampNeg (-1 : Int32)))) rfl ?_
                          exact Ex.rt hq rfl rfl ⟨(((s13.1 5502) + (1 : Int32)) - (1 : Int32)), (sA (sA (sA (sA (sA (sA (sA (sA (sA (sA (sA (sI s13 5502 ((s13.1 5502) + (1 : Int32))) 57 (upd (s13.2.1 57) ((s13.1 5502)).toNatClampNeg p0)) 58 (upd (s13.2.1 58) ((s13.1 5502)).toNatClampNeg p1)) 59 (upd (s13.2.1 59) ((s13.1 5502)).toNatClampNeg p2)) 60 (upd (s13.2.1 60) ((s13.1 5502)).toNatClampNeg p3)) 61 (upd (s13.2.1 61) ((s13.1 5502)).toNatClampNeg p4)) 62 (upd (s13.2.1 62) ((s13.1 5502)).toNatClampNeg p5)) 63 (upd (s13.2.1 63) ((s13.1 5502)).toNatClampNeg p6)) 64 (upd (s13.2.1 64) ((s13.1 5502)).toNatClampNeg p7)) 65 (upd (s13.2.1 65) ((s13.1 5502)).toNatClampNeg p8)) 66 (upd (s13.2.1 66) ((s13.1 5502)).toNatClampNeg (s13.1 5500))) 67 (upd (s13.2.1 67) ((s13.1 5502)).toNatClampNeg (-1 : Int32))), rfl, rfl, k⟩
                        · have k := k.2 c
                          refine Ex.seg hq 2 (j := 72) (L' := [.ref 55, .int p0, .int p1, .int p2, .int p3, .int p4, .int p5, .int p6, .int p7, .int p8]) (S' := [.int (-1 : Int32)]) (h' := hpS s13) rfl ?_
                          exact Ex.rt hq rfl rfl ⟨(-1 : Int32), s13, rfl, rfl, k⟩
                    · have k := k.2 c
                      refine Ex.seg hq 2 (j := 53) (L' := [.ref 55, .int p0, .int p1, .int p2, .int p3, .int p4, .int p5, .int p6, .int p7, .int p8]) (S' := [.int p2, .ref 55]) (h' := hpS s13) rfl ?_
                      refine Ex.cl hq rfl rfl ?_
                      refine Rn.mono (q_189 (d := d + 0) p2 s13 k) ?_
                      rintro _ _ ⟨r18, s17, rfl, hzr18, rfl, k⟩
                      show Ex sc (d + 1) 193 54 [.ref 55, .int p0, .int p1, .int p2, .int p3, .int p4, .int p5, .int p6, .int p7, .int p8] [.int r18] (hpS s17) _
                      refine Ex.i1 hq rfl (fun c => ?_) (fun c => ?_)
                      · have k := k.1 c
                        refine Ex.seg hq 1 (j := 72) (L' := [.ref 55, .int p0, .int p1, .int p2, .int p3, .int p4, .int p5, .int p6, .int p7, .int p8]) (S' := [.int (-1 : Int32)]) (h' := hpS s17) rfl ?_
                        exact Ex.rt hq rfl rfl ⟨(-1 : Int32), s17, rfl, rfl, k⟩
                      · have k := k.2 c
                        refine Ex.seg hq 2 (j := 57) (L' := [.ref 55, .int p0, .int p1, .int p2, .int p3, .int p4, .int p5, .int p6, .int p7, .int p8]) (S' := [.int p1, .int p2]) (h' := hpS s17) rfl ?_
                        refine Ex.i2 hq rfl (fun c => ?_) (fun c => ?_)
                        · have k := k.1 c
                          refine Ex.seg hq 5 (j := 78) (L' := [.ref 55, .int p0, .int p1, .int p2, .int p3, .int p4, .int p5, .int p6, .int p7, .int p8]) (S' := [.int p0, .int (s17.1 5502), .ref 57]) (h' := hpS s17) rfl ?_
                          obtain ⟨hin, k⟩ := k
                          refine Ex.ias hq rfl rfl hin (h' := hpS (sA s17 57 (upd (s17.2.1 57) ((s17.1 5502)).toNatClampNeg p0))) (hset_57 _ _) ?_
                          refine Ex.seg hq 5 (j := 84) (L' := [.ref 55, .int p0, .int p1, .int p2, .int p3, .int p4, .int p5, .int p6, .int p7, .int p8]) (S' := [.int p1, .int (s17.1 5502), .ref 58]) (h' := hpS (sA s17 57 (upd (s17.2.1 57) ((s17.1 5502)).toNatClampNeg p0))) rfl ?_
                          obtain ⟨hin, k⟩ := k
                          refine Ex.ias hq rfl rfl hin (h' := hpS (sA (sA s17 57 (upd (s17.2.1 57) ((s17.1 5502)).toNatClampNeg p0)) 58 (upd (s17.2.1 58) ((s17.1 5502)).toNatClampNeg p1))) (hset_58 _ _) ?_
                          refine Ex.seg hq 5 (j := 90) (L' := [.ref 55, .int p0, .int p1, .int p2, .int p3, .int p4, .int p5, .int p6, .int p7, .int p8]) (S' := [.int p2, .int (s17.1 5502), .ref 59]) (h' := hpS (sA (sA s17 57 (upd (s17.2.1 57) ((s17.1 5502)).toNatClampNeg p0)) 58 (upd (s17.2.1 58) ((s17.1 5502)).toNatClampNeg p1))) rfl ?_
                          obtain ⟨hin, k⟩ := k
                          refine Ex.ias hq rfl rfl hin (h' := hpS (sA (sA (sA s17 57 (upd (s17.2.1 57) ((s17.1 5502)).toNatClampNeg p0)) 58 (upd (s17.2.1 58) ((s17.1 5502)).toNatClampNeg p1)) 59 (upd (s17.2.1 59) ((s17.1 5502)).toNatClampNeg p2))) (hset_59 _ _) ?_
                          refine Ex.seg hq 5 (j := 96) (L' := [.ref 55, .int p0, .int p1, .int p2, .int p3, .int p4, .int p5, .int p6, .int p7, .int p8]) (S' := [.int p3, .int (s17.1 5502), .ref 60]) (h' := hpS (sA (sA (sA s17 57 (upd (s17.2.1 57) ((s17.1 5502)).toNatClampNeg p0)) 58 (upd (s17.2.1 58) ((s17.1 5502)).toNatClampNeg p1)) 59 (upd (s17.2.1 59) ((s17.1 5502)).toNatClampNeg p2))) rfl ?_
                          obtain ⟨hin, k⟩ := k
                          refine Ex.ias hq rfl rfl hin (h' := hpS (sA (sA (sA (sA s17 57 (upd (s17.2.1 57) ((s17.1 5502)).toNatClampNeg p0)) 58 (upd (s17.2.1 58) ((s17.1 5502)).toNatClampNeg p1)) 59 (upd (s17.2.1 59) ((s17.1 5502)).toNatClampNeg p2)) 60 (upd (s17.2.1 60) ((s17.1 5502)).toNatClampNeg p3))) (hset_60 _ _) ?_
                          refine Ex.seg hq 5 (j := 102) (L' := [.ref 55, .int p0, .int p1, .int p2, .int p3, .int p4, .int p5, .int p6, .int p7, .int p8]) (S' := [.int p4, .int (s17.1 5502), .ref 61]) (h' := hpS (sA (sA (sA (sA s17 57 (upd (s17.2.1 57) ((s17.1 5502)).toNatClampNeg p0)) 58 (upd (s17.2.1 58) ((s17.1 5502)).toNatClampNeg p1)) 59 (upd (s17.2.1 59) ((s17.1 5502)).toNatClampNeg p2)) 60 (upd (s17.2.1 60) ((s17.1 5502)).toNatClampNeg p3))) rfl ?_
                          obtain ⟨hin, k⟩ := k
                          refine Ex.ias hq rfl rfl hin (h' := hpS (sA (sA (sA (sA (sA s17 57 (upd (s17.2.1 57) ((s17.1 5502)).toNatClampNeg p0)) 58 (upd (s17.2.1 58) ((s17.1 5502)).toNatClampNeg p1)) 59 (upd (s17.2.1 59) ((s17.1 5502)).toNatClampNeg p2)) 60 (upd (s17.2.1 60) ((s17.1 5502)).toNatClampNeg p3)) 61 (upd (s17.2.1 61) ((s17.1 5502)).toNatClampNeg p4))) (hset_61 _ _) ?_
                          refine Ex.seg hq 5 (j := 108) (L' := [.ref 55, .int p0, .int p1, .int p2, .int p3, .int p4, .int p5, .int p6, .int p7, .int p8]) (S' := [.int p5, .int (s17.1 5502), .ref 62]) (h' := hpS (sA (sA (sA (sA (sA s17 57 (upd (s17.2.1 57) ((s17.1 5502)).toNatClampNeg p0)) 58 (upd (s17.2.1 58) ((s17.1 5502)).toNatClampNeg p1)) 59 (upd (s17.2.1 59) ((s17.1 5502)).toNatClampNeg p2)) 60 (upd (s17.2.1 60) ((s17.1 5502)).toNatClampNeg p3)) 61 (upd (s17.2.1 61) ((s17.1 5502)).toNatClampNeg p4))) rfl ?_
                          obtain ⟨hin, k⟩ := k
                          refine Ex.ias hq rfl rfl hin (h' := hpS (sA (sA (sA (sA (sA (sA s17 57 (upd (s17.2.1 57) ((s17.1 5502)).toNatClampNeg p0)) 58 (upd (s17.2.1 58) ((s17.1 5502)).toNatClampNeg p1)) 59 (upd (s17.2.1 59) ((s17.1 5502)).toNatClampNeg p2)) 60 (upd (s17.2.1 60) ((s17.1 5502)).toNatClampNeg p3)) 61 (upd (s17.2.1 61) ((s17.1 5502)).toNatClampNeg p4)) 62 (upd (s17.2.1 62) ((s17.1 5502)).toNatClampNeg p5))) (hset_62 _ _) ?_
                          refine Ex.seg hq 5 (j := 114) (L' := [.ref 55, .int p0, .int p1, .int p2, .int p3, .int p4, .int p5, .int p6, .int p7, .int p8]) (S' := [.int p6, .int (s17.1 5502), .ref 63]) (h' := hpS (sA (sA (sA (sA (sA (sA s17 57 (upd (s17.2.1 57) ((s17.1 5502)).toNatClampNeg p0)) 58 (upd (s17.2.1 58) ((s17.1 5502)).toNatClampNeg p1)) 59 (upd (s17.2.1 59) ((s17.1 5502)).toNatClampNeg p2)) 60 (upd (s17.2.1 60) ((s17.1 5502)).toNatClampNeg p3)) 61 (upd (s17.2.1 61) ((s17.1 5502)).toNatClampNeg p4)) 62 (upd (s17.2.1 62) ((s17.1 5502)).toNatClampNeg p5))) rfl ?_
                          obtain ⟨hin, k⟩ := k
                          refine Ex.ias hq rfl rfl hin (h' := hpS (sA (sA (sA (sA (sA (sA (sA s17 57 (upd (s17.2.1 57) ((s17.1 5502)).toNatClampNeg p0)) 58 (upd (s17.2.1 58) ((s17.1 5502)).toNatClampNeg p1)) 59 (upd (s17.2.1 59) ((s17.1 5502)).toNatClampNeg p2)) 60 (upd (s17.2.1 60) ((s17.1 5502)).toNatClampNeg p3)) 61 (upd (s17.2.1 61) ((s17.1 5502)).toNatClampNeg p4)) 62 (upd (s17.2.1 62) ((s17.1 5502)).toNatClampNeg p5)) 63 (upd (s17.2.1 63) ((s17.1 5502)).toNatClampNeg p6))) (hset_63 _ _) ?_
                          refine Ex.seg hq 5 (j := 120) (L' := [.ref 55, .int p0, .int p1, .int p2, .int p3, .int p4, .int p5, .int p6, .int p7, .int p8]) (S' := [.int p7, .int (s17.1 5502), .ref 64]) (h' := hpS (sA (sA (sA (sA (sA (sA (sA s17 57 (upd (s17.2.1 57) ((s17.1 5502)).toNatClampNeg p0)) 58 (upd (s17.2.1 58) ((s17.1 5502)).toNatClampNeg p1)) 59 (upd (s17.2.1 59) ((s17.1 5502)).toNatClampNeg p2)) 60 (upd (s17.2.1 60) ((s17.1 5502)).toNatClampNeg p3)) 61 (upd (s17.2.1 61) ((s17.1 5502)).toNatClampNeg p4)) 62 (upd (s17.2.1 62) ((s17.1 5502)).toNatClampNeg p5)) 63 (upd (s17.2.1 63) ((s17.1 5502)).toNatClampNeg p6))) rfl ?_
                          obtain ⟨hin, k⟩ := k
                          refine Ex.ias hq rfl rfl hin (h' := hpS (sA (sA (sA (sA (sA (sA (sA (sA s17 57 (upd (s17.2.1 57) ((s17.1 5502)).toNatClampNeg p0)) 58 (upd (s17.2.1 58) ((s17.1 5502)).toNatClampNeg p1)) 59 (upd (s17.2.1 59) ((s17.1 5502)).toNatClampNeg p2)) 60 (upd (s17.2.1 60) ((s17.1 5502)).toNatClampNeg p3)) 61 (upd (s17.2.1 61) ((s17.1 5502)).toNatClampNeg p4)) 62 (upd (s17.2.1 62) ((s17.1 5502)).toNatClampNeg p5)) 63 (upd (s17.2.1 63) ((s17.1 5502)).toNatClampNeg p6)) 64 (upd (s17.2.1 64) ((s17.1 5502)).toNatClampNeg p7))) (hset_64 _ _) ?_
                          refine Ex.seg hq 5 (j := 126) (L' := [.ref 55, .int p0, .int p1, .int p2, .int p3, .int p4, .int p5, .int p6, .int p7, .int p8]) (S' := [.int p8, .int (s17.1 5502), .ref 65]) (h' := hpS (sA (sA (sA (sA (sA (sA (sA (sA s17 57 (upd (s17.2.1 57) ((s17.1 5502)).toNatClampNeg p0)) 58 (upd (s17.2.1 58) ((s17.1 5502)).toNatClampNeg p1)) 59 (upd (s17.2.1 59) ((s17.1 5502)).toNatClampNeg p2)) 60 (upd (s17.2.1 60) ((s17.1 5502)).toNatClampNeg p3)) 61 (upd (s17.2.1 61) ((s17.1 5502)).toNatClampNeg p4)) 62 (upd (s17.2.1 62) ((s17.1 5502)).toNatClampNeg p5)) 63 (upd (s17.2.1 63) ((s17.1 5502)).toNatClampNeg p6)) 64 (upd (s17.2.1 64) ((s17.1 5502)).toNatClampNeg p7))) rfl ?_
                          obtain ⟨hin, k⟩ := k
                          refine Ex.ias hq rfl rfl hin (h' := hpS (sA (sA (sA (sA (sA (sA (sA (sA (sA s17 57 (upd (s17.2.1 57) ((s17.1 5502)).toNatClampNeg p0)) 58 (upd (s17.2.1 58) ((s17.1 5502)).toNatClampNeg p1)) 59 (upd (s17.2.1 59) ((s17.1 5502)).toNatClampNeg p2)) 60 (upd (s17.2.1 60) ((s17.1 5502)).toNatClampNeg p3)) 61 (upd (s17.2.1 61) ((s17.1 5502)).toNatClampNeg p4)) 62 (upd (s17.2.1 62) ((s17.1 5502)).toNatClampNeg p5)) 63 (upd (s17.2.1 63) ((s17.1 5502)).toNatClampNeg p6)) 64 (upd (s17.2.1 64) ((s17.1 5502)).toNatClampNeg p7)) 65 (upd (s17.2.1 65) ((s17.1 5502)).toNatClampNeg p8))) (hset_65 _ _) ?_
                          refine Ex.seg hq 6 (j := 133) (L' := [.ref 55, .int p0, .int p1, .int p2, .int p3, .int p4, .int p5, .int p6, .int p7, .int p8]) (S' := [.int (s17.1 5500), .int (s17.1 5502), .ref 66]) (h' := hpS (sA (sA (sA (sA (sA (sA (sA (sA (sA s17 57 (upd (s17.2.1 57) ((s17.1 5502)).toNatClampNeg p0)) 58 (upd (s17.2.1 58) ((s17.1 5502)).toNatClampNeg p1)) 59 (upd (s17.2.1 59) ((s17.1 5502)).toNatClampNeg p2)) 60 (upd (s17.2.1 60) ((s17.1 5502)).toNatClampNeg p3)) 61 (upd (s17.2.1 61) ((s17.1 5502)).toNatClampNeg p4)) 62 (upd (s17.2.1 62) ((s17.1 5502)).toNatClampNeg p5)) 63 (upd (s17.2.1 63) ((s17.1 5502)).toNatClampNeg p6)) 64 (upd (s17.2.1 64) ((s17.1 5502)).toNatClampNeg p7)) 65 (upd (s17.2.1 65) ((s17.1 5502)).toNatClampNeg p8))) rfl ?_
                          obtain ⟨hin, k⟩ := k
                          refine Ex.ias hq rfl rfl hin (h' := hpS (sA (sA (sA (sA (sA (sA (sA (sA (sA (sA s17 57 (upd (s17.2.1 57) ((s17.1 5502)).toNatClampNeg p0)) 58 (upd (s17.2.1 58) ((s17.1 5502)).toNatClampNeg p1)) 59 (upd (s17.2.1 59) ((s17.1 5502)).toNatClampNeg p2)) 60 (upd (s17.2.1 60) ((s17.1 5502)).toNatClampNeg p3)) 61 (upd (s17.2.1 61) ((s17.1 5502)).toNatClampNeg p4)) 62 (upd (s17.2.1 62) ((s17.1 5502)).toNatClampNeg p5)) 63 (upd (s17.2.1 63) ((s17.1 5502)).toNatClampNeg p6)) 64 (upd (s17.2.1 64) ((s17.1 5502)).toNatClampNeg p7)) 65 (upd (s17.2.1 65) ((s17.1 5502)).toNatClampNeg p8)) 66 (upd (s17.2.1 66) ((s17.1 5502)).toNatClampNeg (s17.1 5500)))) (hset_66 _ _) ?_
                          refine Ex.seg hq 5 (j := 139) (L' := [.ref 55, .int p0, .int p1, .int p2, .int p3, .int p4, .int p5, .int p6, .int p7, .int p8]) (S' := [.int (-1 : Int32), .int (s17.1 5502), .ref 67]) (h' := hpS (sA (sA (sA (sA (sA (sA (sA (sA (sA (sA s17 57 (upd (s17.2.1 57) ((s17.1 5502)).toNatClampNeg p0)) 58 (upd (s17.2.1 58) ((s17.1 5502)).toNatClampNeg p1)) 59 (upd (s17.2.1 59) ((s17.1 5502)).toNatClampNeg p2)) 60 (upd (s17.2.1 60) ((s17.1 5502)).toNatClampNeg p3)) 61 (upd (s17.2.1 61) ((s17.1 5502)).toNatClampNeg p4)) 62 (upd (s17.2.1 62) ((s17.1 5502)).toNatClampNeg p5)) 63 (upd (s17.2.1 63) ((s17.1 5502)).toNatClampNeg p6)) 64 (upd (s17.2.1 64) ((s17.1 5502)).toNatClampNeg p7)) 65 (upd (s17.2.1 65) ((s17.1 5502)).toNatClampNeg p8)) 66 (upd (s17.2.1 66) ((s17.1 5502)).toNatClampNeg (s17.1 5500)))) rfl ?_
                          obtain ⟨hin, k⟩ := k
                          refine Ex.ias hq rfl rfl hin (h' := hpS (sA (sA (sA (sA (sA (sA (sA (sA (sA (sA (sA s17 57 (upd (s17.2.1 57) ((s17.1 5502)).toNatClampNeg p0)) 58 (upd (s17.2.1 58) ((s17.1 5502)).toNatClampNeg p1)) 59 (upd (s17.2.1 59) ((s17.1 5502)).toNatClampNeg p2)) 60 (upd (s17.2.1 60) ((s17.1 5502)).toNatClampNeg p3)) 61 (upd (s17.2.1 61) ((s17.1 5502)).toNatClampNeg p4)) 62 (upd (s17.2.1 62) ((s17.1 5502)).toNatClampNeg p5)) 63 (upd (s17.2.1 63) ((s17.1 5502)).toNatClampNeg p6)) 64 (upd (s17.2.1 64) ((s17.1 5502)).toNatClampNeg p7)) 65 (upd (s17.2.1 65) ((s17.1 5502)).toNatClampNeg p8)) 66 (upd (s17.2.1 66) ((s17.1 5502)).toNatClampNeg (s17.1 5500))) 67 (upd (s17.2.1 67) ((s17.1 5502)).toNatClampNeg (-1 : Int32)))) (hset_67 _ _) ?_
                          refine Ex.seg hq 10 (j := 150) (L' := [.ref 55, .int p0, .int p1, .int p2, .int p3, .int p4, .int p5, .int p6, .int p7, .int p8]) (S' := [.int (((s17.1 5502) + (1 : Int32)) - (1 : Int32))]) (h' := hpS (sA (sA (sA (sA (sA (sA (sA (sA (sA (sA (sA (sI s17 5502 ((s17.1 5502) + (1 : Int32))) 57 (upd (s17.2.1 57) ((s17.1 5502)).toNatClampNeg p0)) 58 (upd (s17.2.1 58) ((s17.1 5502)).toNatClampNeg p1)) 59 (upd (s17.2.1 59) ((s17.1 5502)).toNatClampNeg p2)) 60 (upd (s17.2.1 60) ((s17.1 5502)).toNatClampNeg p3)) 61 (upd (s17.2.1 61) ((s17.1 5502)).toNatClampNeg p4)) 62 (upd (s17.2.1 62) ((s17.1 5502)).toNatClampNeg p5)) 63 (upd (s17.2.1 63) ((s17.1 5502)).toNatClampNeg p6)) 64 (upd (s17.2.1 64) ((s17.1 5502)).toNatClampNeg p7)) 65 (upd (s17.2.1 65) ((s17.1 5502)).toNatClampNeg p8)) 66 (upd (s17.2.1 66) ((s17.1 5502)).toNatClampNeg (s17.1 5500))) 67 (upd (s17.2.1 67) ((s17.1 5502)).toNatClampNeg (-1 : Int32)))) rfl ?_
                          exact Ex.rt hq rfl rfl ⟨(((s17.1 5502) + (1 : Int32)) - (1 : Int32)), (sA (sA (sA (sA (sA (sA (sA (sA (sA (sA (sA (sI s17 5502 ((s17.1 5502) + (1 : Int32))) 57 (upd (s17.2.1 57) ((s17.1 5502)).toNatClampNeg p0)) 58 (upd (s17.2.1 58) ((s17.1 5502)).toNatClampNeg p1)) 59 (upd (s17.2.1 59) ((s17.1 5502)).toNatClampNeg p2)) 60 (upd (s17.2.1 60) ((s17.1 5502)).toNatClampNeg p3)) 61 (upd (s17.2.1 61) ((s17.1 5502)).toNatClampNeg p4)) 62 (upd (s17.2.1 62) ((s17.1 5502)).toNatClampNeg p5)) 63 (upd (s17.2.1 63) ((s17.1 5502)).toNatClampNeg p6)) 64 (upd (s17.2.1 64) ((s17.1 5502)).toNatClampNeg p7)) 65 (upd (s17.2.1 65) ((s17.1 5502)).toNatClampNeg p8)) 66 (upd (s17.2.1 66) ((s17.1 5502)).toNatClampNeg (s17.1 5500))) 67 (upd (s17.2.1 67) ((s17.1 5502)).toNatClampNeg (-1 : Int32))), rfl, rfl, k⟩
                        · have k := k.2 c
                          refine Ex.seg hq 2 (j := 72) (L' := [.ref 55, .int p0, .int p1, .int p2, .int p3, .int p4, .int p5, .int p6, .int p7, .int p8]) (S' := [.int (-1 : Int32)]) (h' := hpS s17) rfl ?_
                          exact Ex.rt hq rfl rfl ⟨(-1 : Int32), s17, rfl, rfl, k⟩
                  · have k := k.2 c
                    refine Ex.seg hq 1 (j := 47) (L' := [.ref 55, .int p0, .int p1, .int p2, .int p3, .int p4, .int p5, .int p6, .int p7, .int p8]) (S' := [.int (-1 : Int32)]) (h' := hpS s13) rfl ?_
                    exact Ex.rt hq rfl rfl ⟨(-1 : Int32), s13, rfl, rfl, k⟩
              · have k := k.2 c
                refine Ex.seg hq 1 (j := 32) (L' := [.ref 55, .int p0, .int p1, .int p2, .int p3, .int p4, .int p5, .int p6, .int p7, .int p8]) (S' := [.int p7]) (h' := hpS s11) rfl ?_
                refine Ex.cl hq rfl rfl ?_
                refine Rn.mono (q_191 (d := d + 0) p7 s11 k) ?_
                rintro _ _ ⟨r20, s19, rfl, hzr20, rfl, k⟩
                show Ex sc (d + 1) 193 33 [.ref 55, .int p0, .int p1, .int p2, .int p3, .int p4, .int p5, .int p6, .int p7, .int p8] [.int r20] (hpS s19) _
                refine Ex.i1 hq rfl (fun c => ?_) (fun c => ?_)
                · have k := k.1 c
                  refine Ex.seg hq 1 (j := 47) (L' := [.ref 55, .int p0, .int p1, .int p2, .int p3, .int p4, .int p5, .int p6, .int p7, .int p8]) (S' := [.int (-1 : Int32)]) (h' := hpS s19) rfl ?_
                  exact Ex.rt hq rfl rfl ⟨(-1 : Int32), s19, rfl, rfl, k⟩
                · have k := k.2 c
                  refine Ex.seg hq 2 (j := 36) (L' := [.ref 55, .int p0, .int p1, .int p2, .int p3, .int p4, .int p5, .int p6, .int p7, .int p8]) (S' := [.int p6, .int p7]) (h' := hpS s19) rfl ?_
                  refine Ex.i2 hq rfl (fun c => ?_) (fun c => ?_)
                  · have k := k.1 c
                    refine Ex.seg hq 1 (j := 47) (L' := [.ref 55, .int p0, .int p1, .int p2, .int p3, .int p4, .int p5, .int p6, .int p7, .int p8]) (S' := [.int (-1 : Int32)]) (h' := hpS s19) rfl ?_
                    exact Ex.rt hq rfl rfl ⟨(-1 : Int32), s19, rfl, rfl, k⟩
                  · have k := k.2 c
                    refine Ex.seg hq 3 (j := 40) (L' := [.ref 55, .int p0, .int p1, .int p2, .int p3, .int p4, .int p5, .int p6, .int p7, .int p8]) (S' := [.int (99 : Int32), .int (-1 : Int32), .int p8]) (h' := hpS s19) rfl ?_
                    refine Ex.cl hq rfl rfl ?_
                    refine Rn.mono (q_186 (d := d + 0) p8 (-1 : Int32) (99 : Int32) s19 k) ?_
                    rintro _ _ ⟨r22, s21, rfl, hzr22, rfl, k⟩
                    show Ex sc (d + 1) 193 41 [.ref 55, .int p0, .int p1, .int p2, .int p3, .int p4, .int p5, .int p6, .int p7, .int p8] [.int r22] (hpS s21) _
                    refine Ex.i1 hq rfl (fun c => ?_) (fun c => ?_)
                    · have k := k.1 c
                      refine Ex.seg hq 1 (j := 47) (L' := [.ref 55, .int p0, .int p1, .int p2, .int p3, .int p4, .int p5, .int p6, .int p7, .int p8]) (S' := [.int (-1 : Int32)]) (h' := hpS s21) rfl ?_
                      exact Ex.rt hq rfl rfl ⟨(-1 : Int32), s21, rfl, rfl, k⟩
                    · have k := k.2 c
                      refine Ex.seg hq 3 (j := 45) (L' := [.ref 55, .int p0, .int p1, .int p2, .int p3, .int p4, .int p5, .int p6, .int p7, .int p8]) (S' := [.int (150 : Int32), .int (s21.1 5502)]) (h' := hpS s21) rfl ?_
                      refine Ex.i2 hq rfl (fun c => ?_) (fun c => ?_)
                      · have k := k.1 c
                        refine Ex.seg hq 2 (j := 50) (L' := [.ref 55, .int p0, .int p1, .int p2, .int p3, .int p4, .int p5, .int p6, .int p7, .int p8]) (S' := [.int (2 : Int32), .int p0]) (h' := hpS s21) rfl ?_
                        refine Ex.i2 hq rfl (fun c => ?_) (fun c => ?_)
                        · have k := k.1 c
                          refine Ex.seg hq 2 (j := 61) (L' := [.ref 55, .int p0, .int p1, .int p2, .int p3, .int p4, .int p5, .int p6, .int p7, .int p8]) (S' := [.int (3 : Int32), .int p0]) (h' := hpS s21) rfl ?_
                          refine Ex.i2 hq rfl (fun c => ?_) (fun c => ?_)
                          · have k := k.1 c
                            refine Ex.seg hq 3 (j := 69) (L' := [.ref 55, .int p0, .int p1, .int p2, .int p3, .int p4, .int p5, .int p6, .int p7, .int p8]) (S' := [.int (19 : Int32), .int (0 : Int32), .int p2]) (h' := hpS s21) rfl ?_
                            refine Ex.cl hq rfl rfl ?_
                            refine Rn.mono (q_186 (d := d + 0) p2 (0 : Int32) (19 : Int32) s21 k) ?_
                            rintro _ _ ⟨r24, s23, rfl, hzr24, rfl, k⟩
                            show Ex sc (d + 1) 193 70 [.ref 55, .int p0, .int p1, .int p2, .int p3, .int p4, .int p5, .int p6, .int p7, .int p8] [.int r24] (hpS s23) _
                            refine Ex.i1 hq rfl (fun c => ?_) (fun c => ?_)
                            · have k := k.1 c
                              refine Ex.seg hq 5 (j := 78) (L' := [.ref 55, .int p0, .int p1, .int p2, .int p3, .int p4, .int p5, .int p6, .int p7, .int p8]) (S' := [.int p0, .int (s23.1 5502), .ref 57]) (h' := hpS s23) rfl ?_
                              obtain ⟨hin, k⟩ := k
                              refine Ex.ias hq rfl rfl hin (h' := hpS (sA s23 57 (upd (s23.2.1 57) ((s23.1 5502)).toNatClampNeg p0))) (hset_57 _ _) ?_
                              refine Ex.seg hq 5 (j := 84) (L' := [.ref 55, .int p0, .int p1, .int p2, .int p3, .int p4, .int p5, .int p6, .int p7, .int p8]) (S' := [.int p1, .int (s23.1 5502), .ref 58]) (h' := hpS (sA s23 57 (upd (s23.2.1 57) ((s23.1 5502)).toNatClampNeg p0))) rfl ?_
                              obtain ⟨hin, k⟩ := k
                              refine Ex.ias hq rfl rfl hin (h' := hpS (sA (sA s23 57 (upd (s23.2.1 57) ((s23.1 5502)).toNatClampNeg p0)) 58 (upd (s23.2.1 58) ((s23.1 5502)).toNatClampNeg p1))) (hset_58 _ _) ?_
                              refine Ex.seg hq 5 (j := 90) (L' := [.ref 55, .int p0, .int p1, .int p2, .int p3, .int p4, .int p5, .int p6, .int p7, .int p8]) (S' := [.int p2, .int (s23.1 5502), .ref 59]) (h' := hpS (sA (sA s23 57 (upd (s23.2.1 57) ((s23.1 5502)).toNatClampNeg p0)) 58 (upd (s23.2.1 58) ((s23.1 5502)).toNatClampNeg p1))) rfl ?_
                              obtain ⟨hin, k⟩ := k
                              refine Ex.ias hq rfl rfl hin (h' := hpS (sA (sA (sA s23 57 (upd (s23.2.1 57) ((s23.1 5502)).toNatClampNeg p0)) 58 (upd (s23.2.1 58) ((s23.1 5502)).toNatClampNeg p1)) 59 (upd (s23.2.1 59) ((s23.1 5502)).toNatClampNeg p2))) (hset_59 _ _) ?_
                              refine Ex.seg hq 5 (j := 96) (L' := [.ref 55, .int p0, .int p1, .int p2, .int p3, .int p4, .int p5, .int p6, .int p7, .int p8]) (S' := [.int p3, .int (s23.1 5502), .ref 60]) (h' := hpS (sA (sA (sA s23 57 (upd (s23.2.1 57) ((s23.1 5502)).toNatClampNeg p0)) 58 (upd (s23.2.1 58) ((s23.1 5502)).toNatClampNeg p1)) 59 (upd (s23.2.1 59) ((s23.1 5502)).toNatClampNeg p2))) rfl ?_
                              obtain ⟨hin, k⟩ := k
                              refine Ex.ias hq rfl rfl hin (h' := hpS (sA (sA (sA (sA s23 57 (upd (s23.2.1 57) ((s23.1 5502)).toNatClampNeg p0)) 58 (upd (s23.2.1 58) ((s23.1 5502)).toNatClampNeg p1)) 59 (upd (s23.2.1 59) ((s23.1 5502)).toNatClampNeg p2)) 60 (upd (s23.2.1 60) ((s23.1 5502)).toNatClampNeg p3))) (hset_60 _ _) ?_
                              refine Ex.seg hq 5 (j := 102) (L' := [.ref 55, .int p0, .int p1, .int p2, .int p3, .int p4, .int p5, .int p6, .int p7, .int p8]) (S' := [.int p4, .int (s23.1 5502), .ref 61]) (h' := hpS (sA (sA (sA (sA s23 57 (upd (s23.2.1 57) ((s23.1 5502)).toNatClampNeg p0)) 58 (upd (s23.2.1 58) ((s23.1 5502)).toNatClampNeg p1)) 59 (upd (s23.2.1 59) ((s23.1 5502)).toNatClampNeg p2)) 60 (upd (s23.2.1 60) ((s23.1 5502)).toNatClampNeg p3))) rfl ?_
                              obtain ⟨hin, k⟩ := k
                              refine Ex.ias hq rfl rfl hin (h' := hpS (sA (sA (sA (sA (sA s23 57 (upd (s23.2.1 57) ((s23.1 5502)).toNatClampNeg p0)) 58 (upd (s23.2.1 58) ((s23.1 5502)).toNatClampNeg p1)) 59 (upd (s23.2.1 59) ((s23.1 5502)).toNatClampNeg p2)) 60 (upd (s23.2.1 60) ((s23.1 5502)).toNatClampNeg p3)) 61 (upd (s23.2.1 61) ((s23.1 5502)).toNatClampNeg p4))) (hset_61 _ _) ?_
                              refine Ex.seg hq 5 (j := 108) (L' := [.ref 55, .int p0, .int p1, .int p2, .int p3, .int p4, .int p5, .int p6, .int p7, .int p8]) (S' := [.int p5, .int (s23.1 5502), .ref 62]) (h' := hpS (sA (sA (sA (sA (sA s23 57 (upd (s23.2.1 57) ((s23.1 5502)).toNatClampNeg p0)) 58 (upd (s23.2.1 58) ((s23.1 5502)).toNatClampNeg p1)) 59 (upd (s23.2.1 59) ((s23.1 5502)).toNatClampNeg p2)) 60 (upd (s23.2.1 60) ((s23.1 5502)).toNatClampNeg p3)) 61 (upd (s23.2.1 61) ((s23.1 5502)).toNatClampNeg p4))) rfl ?_
                              obtain ⟨hin, k⟩ := k
                              refine Ex.ias hq rfl rfl hin (h' := hpS (sA (sA (sA (sA (sA (sA s23 57 (upd (s23.2.1 57) ((s23.1 5502)).toNatClampNeg p0)) 58 (upd (s23.2.1 58) ((s23.1 5502)).toNatClampNeg p1)) 59 (upd (s23.2.1 59) ((s23.1 5502)).toNatClampNeg p2)) 60 (upd (s23.2.1 60) ((s23.1 5502)).toNatClampNeg p3)) 61 (upd (s23.2.1 61) ((s23.1 5502)).toNatClampNeg p4)) 62 (upd (s23.2.1 62) ((s23.1 5502)).toNatClampNeg p5))) (hset_62 _ _) ?_
                              refine Ex.seg hq 5 (j := 114) (L' := [.ref 55, .int p0, .int p1, .int p2, .int p3, .int p4, .int p5, .int p6, .int p7, .int p8]) (S' := [.int p6, .int (s23.1 5502), .ref 63]) (h' := hpS (sA (sA (sA (sA (sA (sA s23 57 (upd (s23.2.1 57) ((s23.1 5502)).toNatClampNeg p0)) 58 (upd (s23.2.1 58) ((s23.1 5502)).toNatClampNeg p1)) 59 (upd (s23.2.1 59) ((s23.1 5502)).toNatClampNeg p2)) 60 (upd (s23.2.1 60) ((s23.1 5502)).toNatClampNeg p3)) 61 (upd (s23.2.1 61) ((s23.1 5502)).toNatClampNeg p4)) 62 (upd (s23.2.1 62) ((s23.1 5502)).toNatClampNeg p5))) rfl ?_
                              obtain ⟨hin, k⟩ := k
                              refine Ex.ias hq rfl rfl hin (h' := hpS (sA (sA (sA (sA (sA (sA (sA s23 57 (upd (s23.2.1 57) ((s23.1 5502)).toNatClampNeg p0)) 58 (upd (s23.2.1 58) ((s23.1 5502)).toNatClampNeg p1)) 59 (upd (s23.2.1 59) ((s23.1 5502)).toNatClampNeg p2)) 60 (upd (s23.2.1 60) ((s23.1 5502)).toNatClampNeg p3)) 61 (upd (s23.2.1 61) ((s23.1 5502)).toNatClampNeg p4)) 62 (upd (s23.2.1 62) ((s23.1 5502)).toNatClampNeg p5)) 63 (upd (s23.2.1 63) ((s23.1 5502)).toNatClampNeg p6))) (hset_63 _ _) ?_
                              refine Ex.seg hq 5 (j := 120) (L' := [.ref 55, .int p0, .int p1, .int p2, .int p3, .int p4, .int p5, .int p6, .int p7, .int p8]) (S' := [.int p7, .int (s23.1 5502), .ref 64]) (h' := hpS (sA (sA (sA (sA (sA (sA (sA s23 57 (upd (s23.2.1 57) ((s23.1 5502)).toNatClampNeg p0)) 58 (upd (s23.2.1 58) ((s23.1 5502)).toNatClampNeg p1)) 59 (upd (s23.2.1 59) ((s23.1 5502)).toNatClampNeg p2)) 60 (upd (s23.2.1 60) ((s23.1 5502)).toNatClampNeg p3)) 61 (upd (s23.2.1 61) ((s23.1 5502)).toNatClampNeg p4)) 62 (upd (s23.2.1 62) ((s23.1 5502)).toNatClampNeg p5)) 63 (upd (s23.2.1 63) ((s23.1 5502)).toNatClampNeg p6))) rfl ?_
                              obtain ⟨hin, k⟩ := k
                              refine Ex.ias hq rfl rfl hin (h' := hpS (sA (sA (sA (sA (sA (sA (sA (sA s23 57 (upd (s23.2.1 57) ((s23.1 5502)).toNatClampNeg p0)) 58 (upd (s23.2.1 58) ((s23.1 5502)).toNatClampNeg p1)) 59 (upd (s23.2.1 59) ((s23.1 5502)).toNatClampNeg p2)) 60 (upd (s23.2.1 60) ((s23.1 5502)).toNatClampNeg p3)) 61 (upd (s23.2.1 61) ((s23.1 5502)).toNatClampNeg p4)) 62 (upd (s23.2.1 62) ((s23.1 5502)).toNatClampNeg p5)) 63 (upd (s23.2.1 63) ((s23.1 5502)).toNatClampNeg p6)) 64 (upd (s23.2.1 64) ((s23.1 5502)).toNatClampNeg p7))) (hset_64 _ _) ?_
                              refine Ex.seg hq 5 (j := 126) (L' := [.ref 55, .int p0, .int p1, .int p2, .int p3, .int p4, .int p5, .int p6, .int p7, .int p8]) (S' := [.int p8, .int (s23.1 5502), .ref 65]) (h' := hpS (sA (sA (sA (sA (sA (sA (sA (sA s23 57 (upd (s23.2.1 57) ((s23.1 5502)).toNatClampNeg p0)) 58 (upd (s23.2.1 58) ((s23.1 5502)).toNatClampNeg p1)) 59 (upd (s23.2.1 59) ((s23.1 5502)).toNatClampNeg p2)) 60 (upd (s23.2.1 60) ((s23.1 5502)).toNatClampNeg p3)) 61 (upd (s23.2.1 61) ((s23.1 5502)).toNatClampNeg p4)) 62 (upd (s23.2.1 62) ((s23.1 5502)).toNatClampNeg p5)) 63 (upd (s23.2.1 63) ((s23.1 5502)).toNatClampNeg p6)) 64 (upd (s23.2.1 64) ((s23.1 5502)).toNatClampNeg p7))) rfl ?_
                              obtain ⟨hin, k⟩ := k
                              refine Ex.ias hq rfl rfl hin (h' := hpS (sA (sA (sA (sA (sA (sA (sA (sA (sA s23 57 (upd (s23.2.1 57) ((s23.1 5502)).toNatClampNeg p0)) 58 (upd (s23.2.1 58) ((s23.1 5502)).toNatClampNeg p1)) 59 (upd (s23.2.1 59) ((s23.1 5502)).toNatClampNeg p2)) 60 (upd (s23.2.1 60) ((s23.1 5502)).toNatClampNeg p3)) 61 (upd (s23.2.1 61) ((s23.1 5502)).toNatClampNeg p4)) 62 (upd (s23.2.1 62) ((s23.1 5502)).toNatClampNeg p5)) 63 (upd (s23.2.1 63) ((s23.1 5502)).toNatClampNeg p6)) 64 (upd (s23.2.1 64) ((s23.1 5502)).toNatClampNeg p7)) 65 (upd (s23.2.1 65) ((s23.1 5502)).toNatClampNeg p8))) (hset_65 _ _) ?_
                              refine Ex.seg hq 6 (j := 133) (L' := [.ref 55, .int p0, .int p1, .int p2, .int p3, .int p4, .int p5, .int p6, .int p7, .int p8]) (S' := [.int (s23.1 5500), .int (s23.1 5502), .ref 66]) (h' := hpS (sA (sA (sA (sA (sA (sA (sA (sA (sA s23 57 (upd (s23.2.1 57) ((s23.1 5502)).toNatClampNeg p0)) 58 (upd (s23.2.1 58) ((s23.1 5502)).toNatClampNeg p1)) 59 (upd (s23.2.1 59) ((s23.1 5502)).toNatClampNeg p2)) 60 (upd (s23.2.1 60) ((s23.1 5502)).toNatClampNeg p3)) 61 (upd (s23.2.1 61) ((s23.1 5502)).toNatClampNeg p4)) 62 (upd (s23.2.1 62) ((s23.1 5502)).toNatClampNeg p5)) 63 (upd (s23.2.1 63) ((s23.1 5502)).toNatClampNeg p6)) 64 (upd (s23.2.1 64) ((s23.1 5502)).toNatClampNeg p7)) 65 (upd (s23.2.1 65) ((s23.1 5502)).toNatClampNeg p8))) rfl ?_
                              obtain ⟨hin, k⟩ := k
                              refine Ex.ias hq rfl rfl hin (h' := hpS (sA (sA (sA (sA (sA (sA (sA (sA (sA (sA s23 57 (upd (s23.2.1 57) ((s23.1 5502)).toNatClampNeg p0)) 58 (upd (s23.2.1 58) ((s23.1 5502)).toNatClampNeg p1)) 59 (upd (s23.2.1 59) ((s23.1 5502)).toNatClampNeg p2)) 60 (upd (s23.2.1 60) ((s23.1 5502)).toNatClampNeg p3)) 61 (upd (s23.2.1 61) ((s23.1 5502)).toNatClampNeg p4)) 62 (upd (s23.2.1 62) ((s23.1 5502)).toNatClampNeg p5)) 63 (upd (s23.2.1 63) ((s23.1 5502)).toNatClampNeg p6)) 64 (upd (s23.2.1 64) ((s23.1 5502)).toNatClampNeg p7)) 65 (upd (s23.2.1 65) ((s23.1 5502)).toNatClampNeg p8)) 66 (upd (s23.2.1 66) ((s23.1 5502)).toNatClampNeg (s23.1 5500)))) (hset_66 _ _) ?_
                              refine Ex.seg hq 5 (j := 139) (L' := [.ref 55, .int p0, .int p1, .int p2, .int p3, .int p4, .int p5, .int p6, .int p7, .int p8]) (S' := [.int (-1 : Int32), .int (s23.1 5502), .ref 67]) (h' := hpS (sA (sA (sA (sA (sA (sA (sA (sA (sA (sA s23 57 (upd (s23.2.1 57) ((s23.1 5502)).toNatClampNeg p0)) 58 (upd (s23.2.1 58) ((s23.1 5502)).toNatClampNeg p1)) 59 (upd (s23.2.1 59) ((s23.1 5502)).toNatClampNeg p2)) 60 (upd (s23.2.1 60) ((s23.1 5502)).toNatClampNeg p3)) 61 (upd (s23.2.1 61) ((s23.1 5502)).toNatClampNeg p4)) 62 (upd (s23.2.1 62) ((s23.1 5502)).toNatClampNeg p5)) 63 (upd (s23.2.1 63) ((s23.1 5502)).toNatClampNeg p6)) 64 (upd (s23.2.1 64) ((s23.1 5502)).toNatClampNeg p7)) 65 (upd (s23.2.1 65) ((s23.1 5502)).toNatClampNeg p8)) 66 (upd (s23.2.1 66) ((s23.1 5502)).toNatClampNeg (s23.1 5500)))) rfl ?_
                              obtain ⟨hin, k⟩ := k
                              refine Ex.ias hq rfl rfl hin (h' := hpS (sA (sA (sA (sA (sA (sA (sA (sA (sA (sA (sA s23 57 (upd (s23.2.1 57) ((s23.1 5502)).toNatClampNeg p0)) 58 (upd (s23.2.1 58) ((s23.1 5502)).toNatClampNeg p1)) 59 (upd (s23.2.1 59) ((s23.1 5502)).toNatClampNeg p2)) 60 (upd (s23.2.1 60) ((s23.1 5502)).toNatClampNeg p3)) 61 (upd (s23.2.1 61) ((s23.1 5502)).toNatClampNeg p4)) 62 (upd (s23.2.1 62) ((s23.1 5502)).toNatClampNeg p5)) 63 (upd (s23.2.1 63) ((s23.1 5502)).toNatClampNeg p6)) 64 (upd (s23.2.1 64) ((s23.1 5502)).toNatClampNeg p7)) 65 (upd (s23.2.1 65) ((s23.1 5502)).toNatClampNeg p8)) 66 (upd (s23.2.1 66) ((s23.1 5502)).toNatClampNeg (s23.1 5500))) 67 (upd (s23.2.1 67) ((s23.1 5502)).toNatClampNeg (-1 : Int32)))) (hset_67 _ _) ?_
                              refine Ex.seg hq 10 (j := 150) (L' := [.ref 55, .int p0, .int p1, .int p2, .int p3, .int p4, .int p5, .int p6, .int p7, .int p8]) (S' := [.int (((s23.1 5502) + (1 : Int32)) - (1 : Int32))]) (h' := hpS (sA (sA (sA (sA (sA (sA (sA (sA (sA (sA (sA (sI s23 5502 ((s23.1 5502) + (1 : Int32))) 57 (upd (s23.2.1 57) ((s23.1 5502)).toNatClampNeg p0)) 58 (upd (s23.2.1 58) ((s23.1 5502)).toNatClampNeg p1)) 59 (upd (s23.2.1 59) ((s23.1 5502)).toNatClampNeg p2)) 60 (upd (s23.2.1 60) ((s23.1 5502)).toNatClampNeg p3)) 61 (upd (s23.2.1 61) ((s23.1 5502)).toNatClampNeg p4)) 62 (upd (s23.2.1 62) ((s23.1 5502)).toNatClampNeg p5)) 63 (upd (s23.2.1 63) ((s23.1 5502)).toNatClampNeg p6)) 64 (upd (s23.2.1 64) ((s23.1 5502)).toNatClampNeg p7)) 65 (upd (s23.2.1 65) ((s23.1 5502)).toNatClampNeg p8)) 66 (upd (s23.2.1 66) ((s23.1 5502)).toNatClampNeg (s23.1 5500))) 67 (upd (s23.2.1 67) ((s23.1 5502)).toNatClampNeg (-1 : Int32)))) rfl ?_
                              exact Ex.rt hq rfl rfl ⟨(((s23.1 5502) + (1 : Int32)) - (1 : Int32)), (sA (sA (sA (sA (sA (sA (sA (sA (sA (sA (sA (sI s23 5502 ((s23.1 5502) + (1 : Int32))) 57 (upd (s23.2.1 57) ((s23.1 5502)).toNatClampNeg p0)) 58 (upd (s23.2.1 58) ((s23.1 5502)).toNatClampNeg p1)) 59 (upd (s23.2.1 59) ((s23.1 5502)).toNatClampNeg p2)) 60 (upd (s23.2.1 60) ((s23.1 5502)).toNatClampNeg p3)) 61 (upd (s23.2.1 61) ((s23.1 5502)).toNatClampNeg p4)) 62 (upd (s23.2.1 62) ((s23.1 5502)).toNatClampNeg p5)) 63 (upd (s23.2.1 63) ((s23.1 5502)).toNatClampNeg p6)) 64 (upd (s23.2.1 64) ((s23.1 5502)).toNatClampNeg p7)) 65 (upd (s23.2.1 65) ((s23.1 5502)).toNatClampNeg p8)) 66 (upd (s23.2.1 66) ((s23.1 5502)).toNatClampNeg (s23.1 5500))) 67 (upd (s23.2.1 67) ((s23.1 5502)).toNatClampNeg (-1 : Int32))), rfl, rfl, k⟩
                            · have k := k.2 c
                              refine Ex.seg hq 1 (j := 72) (L' := [.ref 55, .int p0, .int p1, .int p2, .int p3, .int p4, .int p5, .int p6, .int p7, .int p8]) (S' := [.int (-1 : Int32)]) (h' := hpS s23) rfl ?_
                              exact Ex.rt hq rfl rfl ⟨(-1 : Int32), s23, rfl, rfl, k⟩
                          · have k := k.2 c
                            refine Ex.seg hq 2 (j := 64) (L' := [.ref 55, .int p0, .int p1, .int p2, .int p3, .int p4, .int p5, .int p6, .int p7, .int p8]) (S' := [.int (-1 : Int32), .int p2]) (h' := hpS s21) rfl ?_
                            refine Ex.i2 hq rfl (fun c => ?_) (fun c => ?_)
                            · have k := k.1 c
                              refine Ex.seg hq 5 (j := 78) (L' := [.ref 55, .int p0, .int p1, .int p2, .int p3, .int p4, .int p5, .int p6, .int p7, .int p8]) (S' := [.int p0, .int (s21.1 5502), .ref 57]) (h' := hpS s21) rfl ?_
                              obtain ⟨hin, k⟩ := k
                              refine Ex.ias hq rfl rfl hin (h' := hpS (sA s21 57 (upd (s21.2.1 57) ((s21.1 5502)).toNatClampNeg p0))) (hset_57 _ _) ?_
                              refine Ex.seg hq 5 (j := 84) (L' := [.ref 55, .int p0, .int p1, .int p2, .int p3, .int p4, .int p5, .int p6, .int p7, .int p8]) (S' := [.int p1, .int (s21.1 5502), .ref 58]) (h' := hpS (sA s21 57 (upd (s21.2.1 57) ((s21.1 5502)).toNatClampNeg p0))) rfl ?_
                              obtain ⟨hin, k⟩ := k
                              refine Ex.ias hq rfl rfl hin (h' := hpS (sA (sA s21 57 (upd (s21.2.1 57) ((s21.1 5502)).toNatClampNeg p0)) 58 (upd (s21.2.1 58) ((s21.1 5502)).toNatClampNeg p1))) (hset_58 _ _) ?_
                              refine Ex.seg hq 5 (j := 90) (L' := [.ref 55, .int p0, .int p1, .int p2, .int p3, .int p4, .int p5, .int p6, .int p7, .int p8]) (S' := [.int p2, .int (s21.1 5502), .ref 59]) (h' := hpS (sA (sA s21 57 (upd (s21.2.1 57) ((s21.1 5502)).toNatClampNeg p0)) 58 (upd (s21.2.1 58) ((s21.1 5502)).toNatClampNeg p1))) rfl ?_
                              obtain ⟨hin, k⟩ := k
                              refine Ex.ias hq rfl rfl hin (h' := hpS (sA (sA (sA s21 57 (upd (s21.2.1 57) ((s21.1 5502)).toNatClampNeg p0)) 58 (upd (s21.2.1 58) ((s21.1 5502)).toNatClampNeg p1)) 59 (upd (s21.2.1 59) ((s21.1 5502)).toNatClampNeg p2))) (hset_59 _ _) ?_
                              refine Ex.seg hq 5 (j := 96) (L' := [.ref 55, .int p0, .int p1, .int p2, .int p3, .int p4, .int p5, .int p6, .int p7, .int p8]) (S' := [.int p3, .int (s21.1 5502), .ref 60]) (h' := hpS (sA (sA (sA s21 57 (upd (s21.2.1 57) ((s21.1 5502)).toNatClampNeg p0)) 58 (upd (s21.2.1 58) ((s21.1 5502)).toNatClampNeg p1)) 59 (upd (s21.2.1 59) ((s21.1 5502)).toNatClampNeg p2))) rfl ?_
                              obtain ⟨hin, k⟩ := k
                              refine Ex.ias hq rfl rfl hin (h' := hpS (sA (sA (sA (sA s21 57 (upd (s21.2.1 57) ((s21.1 5502)).toNatClampNeg p0)) 58 (upd (s21.2.1 58) ((s21.1 5502)).toNatClampNeg p1)) 59 (upd (s21.2.1 59) ((s21.1 5502)).toNatClampNeg p2)) 60 (upd (s21.2.1 60) ((s21.1 5502)).toNatClampNeg p3))) (hset_60 _ _) ?_
                              refine Ex.seg hq 5 (j := 102) (L' := [.ref 55, .int p0, .int p1, .int p2, .int p3, .int p4, .int p5, .int p6, .int p7, .int p8]) (S' := [.int p4, .int (s21.1 5502), .ref 61]) (h' := hpS (sA (sA (sA (sA s21 57 (upd (s21.2.1 57) ((s21.1 5502)).toNatClampNeg p0)) 58 (upd (s21.2.1 58) ((s21.1 5502)).toNatClampNeg p1)) 59 (upd (s21.2.1 59) ((s21.1 5502)).toNatClampNeg p2)) 60 (upd (s21.2.1 60) ((s21.1 5502)).toNatClampNeg p3))) rfl ?_
                              obtain ⟨hin, k⟩ := k
                              refine Ex.ias hq rfl rfl hin (h' := hpS (sA (sA (sA (sA (sA s21 57 (upd (s21.2.1 57) ((s21.1 5502)).toNatClampNeg p0)) 58 (upd (s21.2.1 58) ((s21.1 5502)).toNatClampNeg p1)) 59 (upd (s21.2.1 59) ((s21.1 5502)).toNatClampNeg p2)) 60 (upd (s21.2.1 60) ((s21.1 5502)).toNatClampNeg p3)) 61 (upd (s21.2.1 61) ((s21.1 5502)).toNatClampNeg p4))) (hset_61 _ _) ?_
                              refine Ex.seg hq 5 (j := 108) (L' := [.ref 55, .int p0, .int p1, .int p2, .int p3, .int p4, .int p5, .int p6, .int p7, .int p8]) (S' := [.int p5, .int (s21.1 5502), .ref 62]) (h' := hpS (sA (sA (sA (sA (sA s21 57 (upd (s21.2.1 57) ((s21.1 5502)).toNatClampNeg p0)) 58 (upd (s21.2.1 58) ((s21.1 5502)).toNatClampNeg p1)) 59 (upd (s21.2.1 59) ((s21.1 5502)).toNatClampNeg p2)) 60 (upd (s21.2.1 60) ((s21.1 5502)).toNatClampNeg p3)) 61 (upd (s21.2.1 61) ((s21.1 5502)).toNatClampNeg p4))) rfl ?_
                              obtain ⟨hin, k⟩ := k
                              refine Ex.ias hq rfl rfl hin (h' := hpS (sA (sA (sA (sA (sA (sA s21 57 (upd (s21.2.1 57) ((s21.1 5502)).toNatClampNeg p0)) 58 (upd (s21.2.1 58) ((s21.1 5502)).toNatClampNeg p1)) 59 (upd (s21.2.1 59) ((s21.1 5502)).toNatClampNeg p2)) 60 (upd (s21.2.1 60) ((s21.1 5502)).toNatClampNeg p3)) 61 (upd (s21.2.1 61) ((s21.1 5502)).toNatClampNeg p4)) 62 (upd (s21.2.1 62) ((s21.1 5502)).toNatClampNeg p5))) (hset_62 _ _) ?_
                              refine Ex.seg hq 5 (j := 114) (L' := [.ref 55, .int p0, .int p1, .int p2, .int p3, .int p4, .int p5, .int p6, .int p7, .int p8]) (S' := [.int p6, .int (s21.1 5502), .ref 63]) (h' := hpS (sA (sA (sA (sA (sA (sA s21 57 (upd (s21.2.1 57) ((s21.1 5502)).toNatClampNeg p0)) 58 (upd (s21.2.1 58) ((s21.1 5502)).toNatClampNeg p1)) 59 (upd (s21.2.1 59) ((s21.1 5502)).toNatClampNeg p2)) 60 (upd (s21.2.1 60) ((s21.1 5502)).toNatClampNeg p3)) 61 (upd (s21.2.1 61) ((s21.1 5502)).toNatClampNeg p4)) 62 (upd (s21.2.1 62) ((s21.1 5502)).toNatClampNeg p5))) rfl ?_
                              obtain ⟨hin, k⟩ := k
                              refine Ex.ias hq rfl rfl hin (h' := hpS (sA (sA (sA (sA (sA (sA (sA s21 57 (upd (s21.2.1 57) ((s21.1 5502)).toNatClampNeg p0)) 58 (upd (s21.2.1 58) ((s21.1 5502)).toNatClampNeg p1)) 59 (upd (s21.2.1 59) ((s21.1 5502)).toNatClampNeg p2)) 60 (upd (s21.2.1 60) ((s21.1 5502)).toNatClampNeg p3)) 61 (upd (s21.2.1 61) ((s21.1 5502)).toNatClampNeg p4)) 62 (upd (s21.2.1 62) ((s21.1 5502)).toNatClampNeg p5)) 63 (upd (s21.2.1 63) ((s21.1 5502)).toNatClampNeg p6))) (hset_63 _ _) ?_
                              refine Ex.seg hq 5 (j := 120) (L' := [.ref 55, .int p0, .int p1, .int p2, .int p3, .int p4, .int p5, .int p6, .int p7, .int p8]) (S' := [.int p7, .int (s21.1 5502), .ref 64]) (h' := hpS (sA (sA (sA (sA (sA (sA (sA s21 57 (upd (s21.2.1 57) ((s21.1 5502)).toNatClampNeg p0)) 58 (upd (s21.2.1 58) ((s21.1 5502)).toNatClampNeg p1)) 59 (upd (s21.2.1 59) ((s21.1 5502)).toNatClampNeg p2)) 60 (upd (s21.2.1 60) ((s21.1 5502)).toNatClampNeg p3)) 61 (upd (s21.2.1 61) ((s21.1 5502)).toNatClampNeg p4)) 62 (upd (s21.2.1 62) ((s21.1 5502)).toNatClampNeg p5)) 63 (upd (s21.2.1 63) ((s21.1 5502)).toNatClampNeg p6))) rfl ?_
                              obtain ⟨hin, k⟩ := k
                              refine Ex.ias hq rfl rfl hin (h' := hpS (sA (sA (sA (sA (sA (sA (sA (sA s21 57 (upd (s21.2.1 57) ((s21.1 5502)).toNatClampNeg p0)) 58 (upd (s21.2.1 58) ((s21.1 5502)).toNatClampNeg p1)) 59 (upd (s21.2.1 59) ((s21.1 5502)).toNatClampNeg p2)) 60 (upd (s21.2.1 60) ((s21.1 5502)).toNatClampNeg p3)) 61 (upd (s21.2.1 61) ((s21.1 5502)).toNatClampNeg p4)) 62 (upd (s21.2.1 62) ((s21.1 5502)).toNatClampNeg p5)) 63 (upd (s21.2.1 63) ((s21.1 5502)).toNatClampNeg p6)) 64 (upd (s21.2.1 64) ((s21.1 5502)).toNatClampNeg p7))) (hset_64 _ _) ?_
                              refine Ex.seg hq 5 (j := 126) (L' := [.ref 55, .int p0, .int p1, .int p2, .int p3, .int p4, .int p5, .int p6, .int p7, .int p8]) (S' := [.int p8, .int (s21.1 5502), .ref 65]) (h' := hpS (sA (sA (sA (sA (sA (sA (sA (sA s21 57 (upd (s21.2.1 57) ((s21.1 5502)).toNatClampNeg p0)) 58 (upd (s21.2.1 58) ((s21.1 5502)).toNatClampNeg p1)) 59 (upd (s21.2.1 59) ((s21.1 5502)).toNatClampNeg p2)) 60 (upd (s21.2.1 60) ((s21.1 5502)).toNatClampNeg p3)) 61 (upd (s21.2.1 61) ((s21.1 5502)).toNatClampNeg p4)) 62 (upd (s21.2.1 62) ((s21.1 5502)).toNatClampNeg p5)) 63 (upd (s21.2.1 63) ((s21.1 5502)).toNatClampNeg p6)) 64 (upd (s21.2.1 64) ((s21.1 5502)).toNatClampNeg p7))) rfl ?_
                              obtain ⟨hin, k⟩ := k
                              refine Ex.ias hq rfl rfl hin (h' := hpS (sA (sA (sA (sA (sA (sA (sA (sA (sA s21 57 (upd (s21.2.1 57) ((s21.1 5502)).toNatClampNeg p0)) 58 (upd (s21.2.1 58) ((s21.1 5502)).toNatClampNeg p1)) 59 (upd (s21.2.1 59) ((s21.1 5502)).toNatClampNeg p2)) 60 (upd (s21.2.1 60) ((s21.1 5502)).toNatClampNeg p3)) 61 (upd (s21.2.1 61) ((s21.1 5502)).toNatClampNeg p4)) 62 (upd (s21.2.1 62) ((s21.1 5502)).toNatClampNeg p5)) 63 (upd (s21.2.1 63) ((s21.1 5502)).toNatClampNeg p6)) 64 (upd (s21.2.1 64) ((s21.1 5502)).toNatClampNeg p7)) 65 (upd (s21.2.1 65) ((s21.1 5502)).toNatClampNeg p8))) (hset_65 _ _) ?_
                              refine Ex.seg hq 6 (j := 133) (L' := [.ref 55, .int p0, .int p1, .int p2, .int p3, .int p4, .int p5, .int p6, .int p7, .int p8]) (S' := [.int (s21.1 5500), .int (s21.1 5502), .ref 66]) (h' := hpS (sA (sA (sA (sA (sA (sA (sA (sA (sA s21 57 (upd (s21.2.1 57) ((s21.1 5502)).toNatClampNeg p0)) 58 (upd (s21.2.1 58) ((s21.1 5502)).toNatClampNeg p1)) 59 (upd (s21.2.1 59) ((s21.1 5502)).toNatClampNeg p2)) 60 (upd (s21.2.1 60) ((s21.1 5502)).toNatClampNeg p3)) 61 (upd (s21.2.1 61) ((s21.1 5502)).toNatClampNeg p4)) 62 (upd (s21.2.1 62) ((s21.1 5502)).toNatClampNeg p5)) 63 (upd (s21.2.1 63) ((s21.1 5502)).toNatClampNeg p6)) 64 (upd (s21.2.1 64) ((s21.1 5502)).toNatClampNeg p7)) 65 (upd (s21.2.1 65) ((s21.1 5502)).toNatClampNeg p8))) rfl ?_
                              obtain ⟨hin, k⟩ := k
                              refine Ex.ias hq rfl rfl hin (h' := hpS (sA (sA (sA (sA (sA (sA (sA (sA (sA (sA s21 57 (upd (s21.2.1 57) ((s21.1 5502)).toNatClampNeg p0)) 58 (upd (s21.2.1 58) ((s21.1 5502)).toNatClampNeg p1)) 59 (upd (s21.2.1 59) ((s21.1 5502)).toNatClampNeg p2)) 60 (upd (s21.2.1 60) ((s21.1 5502)).toNatClampNeg p3)) 61 (upd (s21.2.1 61) ((s21.1 5502)).toNatClampNeg p4)) 62 (upd (s21.2.1 62) ((s21.1 5502)).toNatClampNeg p5)) 63 (upd (s21.2.1 63) ((s21.1 5502)).toNatClampNeg p6)) 64 (upd (s21.2.1 64) ((s21.1 5502)).toNatClampNeg p7)) 65 (upd (s21.2.1 65) ((s21.1 5502)).toNatClampNeg p8)) 66 (upd (s21.2.1 66) ((s21.1 5502)).toNatClampNeg (s21.1 5500)))) (hset_66 _ _) ?_
                              refine Ex.seg hq 5 (j := 139) (L' := [.ref 55, .int p0, .int p1, .int p2, .int p3, .int p4, .int p5, .int p6, .int p7, .int p8]) (S' := [.int (-1 : Int32), .int (s21.1 5502), .ref 67]) (h' := hpS (sA (sA (sA (sA (sA (sA (sA (sA (sA (sA s21 57 (upd (s21.2.1 57) ((s21.1 5502)).toNatClampNeg p0)) 58 (upd (s21.2.1 58) ((s21.1 5502)).toNatClampNeg p1)) 59 (upd (s21.2.1 59) ((s21.1 5502)).toNatClampNeg p2)) 60 (upd (s21.2.1 60) ((s21.1 5502)).toNatClampNeg p3)) 61 (upd (s21.2.1 61) ((s21.1 5502)).toNatClampNeg p4)) 62 (upd (s21.2.1 62) ((s21.1 5502)).toNatClampNeg p5)) 63 (upd (s21.2.1 63) ((s21.1 5502)).toNatClampNeg p6)) 64 (upd (s21.2.1 64) ((s21.1 5502)).toNatClampNeg p7)) 65 (upd (s21.2.1 65) ((s21.1 5502)).toNatClampNeg p8)) 66 (upd (s21.2.1 66) ((s21.1 5502)).toNatClampNeg (s21.1 5500)))) rfl ?_
                              obtain ⟨hin, k⟩ := k
                              refine Ex.ias hq rfl rfl hin (h' := hpS (sA (sA (sA (sA (sA (sA (sA (sA (sA (sA (sA s21 57 (upd (s21.2.1 57) ((s21.1 5502)).toNatClampNeg p0)) 58 (upd (s21.2.1 58) ((s21.1 5502)).toNatClampNeg p1)) 59 (upd (s21.2.1 59) ((s21.1 5502)).toNatClampNeg p2)) 60 (upd (s21.2.1 60) ((s21.1 5502)).toNatClampNeg p3)) 61 (upd (s21.2.1 61) ((s21.1 5502)).toNatClampNeg p4)) 62 (upd (s21.2.1 62) ((s21.1 5502)).toNatClampNeg p5)) 63 (upd (s21.2.1 63) ((s21.1 5502)).toNatClampNeg p6)) 64 (upd (s21.2.1 64) ((s21.1 5502)).toNatClampNeg p7)) 65 (upd (s21.2.1 65) ((s21.1 5502)).toNatClampNeg p8)) 66 (upd (s21.2.1 66) ((s21.1 5502)).toNatClampNeg (s21.1 5500))) 67 (upd (s21.2.1 67) ((s21.1 5502)).toNatClampNeg (-1 : Int32)))) (hset_67 _ _) ?_
                              refine Ex.seg hq 10 (j := 150) (L' := [.ref 55, .int p0, .int p1, .int p2, .int p3, .int p4, .int p5, .int p6, .int p7, .int p8]) (S' := [.int (((s21.1 5502) + (1 : Int32)) - (1 : Int32))]) (h' := hpS (sA (sA (sA (sA (sA (sA (sA (sA (sA (sA (sA (sI s21 5502 ((s21.1 5502) + (1 : Int32))) 57 (upd (s21.2.1 57) ((s21.1 5502)).toNatClampNeg p0)) 58 (upd (s21.2.1 58) ((s21.1 5502)).toNatClampNeg p1)) 59 (upd (s21.2.1 59) ((s21.1 5502)).toNatClampNeg p2)) 60 (upd (s21.2.1 60) ((s21.1 5502)).toNatClampNeg p3)) 61 (upd (s21.2.1 61) ((s21.1 5502)).toNatClampNeg p4)) 62 (upd (s21.2.1 62) ((s21.1 5502)).toNatClampNeg p5)) 63 (upd (s21.2.1 63) ((s21.1 5502)).toNatClampNeg p6)) 64 (upd (s21.2.1 64) ((s21.1 5502)).toNatClampNeg p7)) 65 (upd (s21.2.1 65) ((s21.1 5502)).toNatClampNeg p8)) 66 (upd (s21.2.1 66) ((s21.1 5502)).toNatClampNeg (s21.1 5500))) 67 (upd (s21.2.1 67) ((s21.1 5502)).toNatClampNeg (-1 : Int32)))) rfl ?_
                              exact Ex.rt hq rfl rfl ⟨(((s21.1 5502) + (1 : Int32)) - (1 : Int32)), (sA (sA (sA (sA (sA (sA (sA (sA (sA (sA (sA (sI s21 5502 ((s21.1 5502) + (1 : Int32))) 57 (upd (s21.2.1 57) ((s21.1 5502)).toNatClampNeg p0)) 58 (upd (s21.2.1 58) ((s21.1 5502)).toNatClampNeg p1)) 59 (upd (s21.2.1 59) ((s21.1 5502)).toNatClampNeg p2)) 60 (upd (s21.2.1 60) ((s21.1 5502)).toNatClampNeg p3)) 61 (upd (s21.2.1 61) ((s21.1 5502)).toNatClampNeg p4)) 62 (upd (s21.2.1 62) ((s21.1 5502)).toNatClampNeg p5)) 63 (upd (s21.2.1 63) ((s21.1 5502)).toNatClampNeg p6)) 64 (upd (s21.2.1 64) ((s21.1 5502)).toNatClampNeg p7)) 65 (upd (s21.2.1 65) ((s21.1 5502)).toNatClampNeg p8)) 66 (upd (s21.2.1 66) ((s21.1 5502)).toNatClampNeg (s21.1 5500))) 67 (upd (s21.2.1 67) ((s21.1 5502)).toNatClampNeg (-1 : Int32))), rfl, rfl, k⟩
                            · have k := k.2 c
                              refine Ex.seg hq 2 (j := 72) (L' := [.ref 55, .int p0, .int p1, .int p2, .int p3, .int p4, .int p5, .int p6, .int p7, .int p8]) (S' := [.int (-1 : Int32)]) (h' := hpS s21) rfl ?_
                              exact Ex.rt hq rfl rfl ⟨(-1 : Int32), s21, rfl, rfl, k⟩
                        · have k := k.2 c
                          refine Ex.seg hq 2 (j := 53) (L' := [.ref 55, .int p0, .int p1, .int p2, .int p3, .int p4, .int p5, .int p6, .int p7, .int p8]) (S' := [.int p2, .ref 55]) (h' := hpS s21) rfl ?_
                          refine Ex.cl hq rfl rfl ?_
                          refine Rn.mono (q_189 (d := d + 0) p2 s21 k) ?_
                          rintro _ _ ⟨r26, s25, rfl, hzr26, rfl, k⟩
                          show Ex sc (d + 1) 193 54 [.ref 55, .int p0, .int p1, .int p2, .int p3, .int p4, .int p5, .int p6, .int p7, .int p8] [.int r26] (hpS s25) _
                          refine Ex.i1 hq rfl (fun c => ?_) (fun c => ?_)
                          · have k := k.1 c
                            refine Ex.seg hq 1 (j := 72) (L' := [.ref 55, .int p0, .int p1, .int p2, .int p3, .int p4, .int p5, .int p6, .int p7, .int p8]) (S' := [.int (-1 : Int32)]) (h' := hpS s25) rfl ?_
                            exact Ex.rt hq rfl rfl ⟨(-1 : Int32), s25, rfl, rfl, k⟩
                          · have k := k.2 c
                            refine Ex.seg hq 2 (j := 57) (L' := [.ref 55, .int p0, .int p1, .int p2, .int p3, .int p4, .int p5, .int p6, .int p7, .int p8]) (S' := [.int p1, .int p2]) (h' := hpS s25) rfl ?_
                            refine Ex.i2 hq rfl (fun c => ?_) (fun c => ?_)
                            · have k := k.1 c
                              refine Ex.seg hq 5 (j := 78) (L' := [.ref 55, .int p0, .int p1, .int p2, .int p3, .int p4, .int p5, .int p6, .int p7, .int p8]) (S' := [.int p0, .int (s25.1 5502), .ref 57]) (h' := hpS s25) rfl ?_
                              obtain ⟨hin, k⟩ := k
                              refine Ex.ias hq rfl rfl hin (h' := hpS (sA s25 57 (upd (s25.2.1 57) ((s25.1 5502)).toNatClampNeg p0))) (hset_57 _ _) ?_
                              refine Ex.seg hq 5 (j := 84) (L' := [.ref 55, .int p0, .int p1, .int p2, .int p3, .int p4, .int p5, .int p6, .int p7, .int p8]) (S' := [.int p1, .int (s25.1 5502), .ref 58]) (h' := hpS (sA s25 57 (upd (s25.2.1 57) ((s25.1 5502)).toNatClampNeg p0))) rfl ?_
                              obtain ⟨hin, k⟩ := k
                              refine Ex.ias hq rfl rfl hin (h' := hpS (sA (sA s25 57 (upd (s25.2.1 57) ((s25.1 5502)).toNatClampNeg p0)) 58 (upd (s25.2.1 58) ((s25.1 5502)).toNatClampNeg p1))) (hset_58 _ _) ?_
                              refine Ex.seg hq 5 (j := 90) (L' := [.ref 55, .int p0, .int p1, .int p2, .int p3, .int p4, .int p5, .int p6, .int p7, .int p8]) (S' := [.int p2, .int (s25.1 5502), .ref 59]) (h' := hpS (sA (sA s25 57 (upd (s25.2.1 57) ((s25.1 5502)).toNatClampNeg p0)) 58 (upd (s25.2.1 58) ((s25.1 5502)).toNatClampNeg p1))) rfl ?_
                              obtain ⟨hin, k⟩ := k
                              refine Ex.ias hq rfl rfl hin (h' := hpS (sA (sA (sA s25 57 (upd (s25.2.1 57) ((s25.1 5502)).toNatClampNeg p0)) 58 (upd (s25.2.1 58) ((s25.1 5502)).toNatClampNeg p1)) 59 (upd (s25.2.1 59) ((s25.1 5502)).toNatClampNeg p2))) (hset_59 _ _) ?_
                              refine Ex.seg hq 5 (j := 96) (L' := [.ref 55, .int p0, .int p1, .int p2, .int p3, .int p4, .int p5, .int p6, .int p7, .int p8]) (S' := [.int p3, .int (s25.1 5502), .ref 60]) (h' := hpS (sA (sA (sA s25 57 (upd (s25.2.1 57) ((s25.1 5502)).toNatClampNeg p0)) 58 (upd (s25.2.1 58) ((s25.1 5502)).toNatClampNeg p1)) 59 (upd (s25.2.1 59) ((s25.1 5502)).toNatClampNeg p2))) rfl ?_
                              obtain ⟨hin, k⟩ := k
                              refine Ex.ias hq rfl rfl hin (h' := hpS (sA (sA (sA (sA s25 57 (upd (s25.2.1 57) ((s25.1 5502)).toNatClampNeg p0)) 58 (upd (s25.2.1 58) ((s25.1 5502)).toNatClampNeg p1)) 59 (upd (s25.2.1 59) ((s25.1 5502)).toNatClampNeg p2)) 60 (upd (s25.2.1 60) ((s25.1 5502)).toNatClampNeg p3))) (hset_60 _ _) ?_
                              refine Ex.seg hq 5 (j := 102) (L' := [.ref 55, .int p0, .int p1, .int p2, .int p3, .int p4, .int p5, .int p6, .int p7, .int p8]) (S' := [.int p4, .int (s25.1 5502), .ref 61]) (h' := hpS (sA (sA (sA (sA s25 57 (upd (s25.2.1 57) ((s25.1 5502)).toNatClampNeg p0)) 58 (upd (s25.2.1 58) ((s25.1 5502)).toNatClampNeg p1)) 59 (upd (s25.2.1 59) ((s25.1 5502)).toNatClampNeg p2)) 60 (upd (s25.2.1 60) ((s25.1 5502)).toNatClampNeg p3))) rfl ?_
                              obtain ⟨hin, k⟩ := k
                              refine Ex.ias hq rfl rfl hin (h' := hpS (sA (sA (sA (sA (sA s25 57 (upd (s25.2.1 57) ((s25.1 5502)).toNatClampNeg p0)) 58 (upd (s25.2.1 58) ((s25.1 5502)).toNatClampNeg p1)) 59 (upd (s25.2.1 59) ((s25.1 5502)).toNatClampNeg p2)) 60 (upd (s25.2.1 60) ((s25.1 5502)).toNatClampNeg p3)) 61 (upd (s25.2.1 61) ((s25.1 5502)).toNatClampNeg p4))) (hset_61 _ _) ?_
                              refine Ex.seg hq 5 (j := 108) (L' := [.ref 55, .int p0, .int p1, .int p2, .int p3, .int p4, .int p5, .int p6, .int p7, .int p8]) (S' := [.int p5, .int (s25.1 5502), .ref 62]) (h' := hpS (sA (sA (sA (sA (sA s25 57 (upd (s25.2.1 57) ((s25.1 5502)).toNatClampNeg p0)) 58 (upd (s25.2.1 58) ((s25.1 5502)).toNatClampNeg p1)) 59 (upd (s25.2.1 59) ((s25.1 5502)).toNatClampNeg p2)) 60 (upd (s25.2.1 60) ((s25.1 5502)).toNatClampNeg p3)) 61 (upd (s25.2.1 61) ((s25.1 5502)).toNatClampNeg p4))) rfl ?_
                              obtain ⟨hin, k⟩ := k
                              refine Ex.ias hq rfl rfl hin (h' := hpS (sA (sA (sA (sA (sA (sA s25 57 (upd (s25.2.1 57) ((s25.1 5502)).toNatClampNeg p0)) 58 (upd (s25.2.1 58) ((s25.1 5502)).toNatClampNeg p1)) 59 (upd (s25.2.1 59) ((s25.1 5502)).toNatClampNeg p2)) 60 (upd (s25.2.1 60) ((s25.1 5502)).toNatClampNeg p3)) 61 (upd (s25.2.1 61) ((s25.1 5502)).toNatClampNeg p4)) 62 (upd (s25.2.1 62) ((s25.1 5502)).toNatClampNeg p5))) (hset_62 _ _) ?_
                              refine Ex.seg hq 5 (j := 114) (L' := [.ref 55, .int p0, .int p1, .int p2, .int p3, .int p4, .int p5, .int p6, .int p7, .int p8]) (S' := [.int p6, .int (s25.1 5502), .ref 63]) (h' := hpS (sA (sA (sA (sA (sA (sA s25 57 (upd (s25.2.1 57) ((s25.1 5502)).toNatClampNeg p0)) 58 (upd (s25.2.1 58) ((s25.1 5502)).toNatClampNeg p1)) 59 (upd (s25.2.1 59) ((s25.1 5502)).toNatClampNeg p2)) 60 (upd (s25.2.1 60) ((s25.1 5502)).toNatClampNeg p3)) 61 (upd (s25.2.1 61) ((s25.1 5502)).toNatClampNeg p4)) 62 (upd (s25.2.1 62) ((s25.1 5502)).toNatClampNeg p5))) rfl ?_
                              obtain ⟨hin, k⟩ := k
                              refine Ex.ias hq rfl rfl hin (h' := hpS (sA (sA (sA (sA (sA (sA (sA s25 57 (upd (s25.2.1 57) ((s25.1 5502)).toNatClampNeg p0)) 58 (upd (s25.2.1 58) ((s25.1 5502)).toNatClampNeg p1)) 59 (upd (s25.2.1 59) ((s25.1 5502)).toNatClampNeg p2)) 60 (upd (s25.2.1 60) ((s25.1 5502)).toNatClampNeg p3)) 61 (upd (s25.2.1 61) ((s25.1 5502)).toNatClampNeg p4)) 62 (upd (s25.2.1 62) ((s25.1 5502)).toNatClampNeg p5)) 63 (upd (s25.2.1 63) ((s25.1 5502)).toNatClampNeg p6))) (hset_63 _ _) ?_
                              refine Ex.seg hq 5 (j := 120) (L' := [.ref 55, .int p0, .int p1, .int p2, .int p3, .int p4, .int p5, .int p6, .int p7, .int p8]) (S' := [.int p7, .int (s25.1 5502), .ref 64]) (h' := hpS (sA (sA (sA (sA (sA (sA (sA s25 57 (upd (s25.2.1 57) ((s25.1 5502)).toNatClampNeg p0)) 58 (upd (s25.2.1 58) ((s25.1 5502)).toNatClampNeg p1)) 59 (upd (s25.2.1 59) ((s25.1 5502)).toNatClampNeg p2)) 60 (upd (s25.2.1 60) ((s25.1 5502)).toNatClampNeg p3)) 61 (upd (s25.2.1 61) ((s25.1 5502)).toNatClampNeg p4)) 62 (upd (s25.2.1 62) ((s25.1 5502)).toNatClampNeg p5)) 63 (upd (s25.2.1 63) ((s25.1 5502)).toNatClampNeg p6))) rfl ?_
                              obtain ⟨hin, k⟩ := k
                              refine Ex.ias hq rfl rfl hin (h' := hpS (sA (sA (sA (sA (sA (sA (sA (sA s25 57 (upd (s25.2.1 57) ((s25.1 5502)).toNatClampNeg p0)) 58 (upd (s25.2.1 58) ((s25.1 5502)).toNatClampNeg p1)) 59 (upd (s25.2.1 59) ((s25.1 5502)).toNatClampNeg p2)) 60 (upd (s25.2.1 60) ((s25.1 5502)).toNatClampNeg p3)) 61 (upd (s25.2.1 61) ((s25.1 5502)).toNatClampNeg p4)) 62 (upd (s25.2.1 62) ((s25.1 5502)).toNatClampNeg p5)) 63 (upd (s25.2.1 63) ((s25.1 5502)).toNatClampNeg p6)) 64 (upd (s25.2.1 64) ((s25.1 5502)).toNatClampNeg p7))) (hset_64 _ _) ?_
                              refine Ex.seg hq 5 (j := 126) (L' := [.ref 55, .int p0, .int p1, .int p2, .int p3, .int p4, .int p5, .int p6, .int p7, .int p8]) (S' := [.int p8, .int (s25.1 5502), .ref 65]) (h' := hpS (sA (sA (sA (sA (sA (sA (sA (sA s25 57 (upd (s25.2.1 57) ((s25.1 5502)).toNatClampNeg p0)) 58 (upd (s25.2.1 58) ((s25.1 5502)).toNatClampNeg p1)) 59 (upd (s25.2.1 59) ((s25.1 5502)).toNatClampNeg p2)) 60 (upd (s25.2.1 60) ((s25.1 5502)).toNatClampNeg p3)) 61 (upd (s25.2.1 61) ((s25.1 5502)).toNatClampNeg p4)) 62 (upd (s25.2.1 62) ((s25.1 5502)).toNatClampNeg p5)) 63 (upd (s25.2.1 63) ((s25.1 5502)).toNatClampNeg p6)) 64 (upd (s25.2.1 64) ((s25.1 5502)).toNatClampNeg p7))) rfl ?_
                              obtain ⟨hin, k⟩ := k
                              refine Ex.ias hq rfl rfl hin (h' := hpS (sA (sA (sA (sA (sA (sA (sA (sA (sA s25 57 (upd (s25.2.1 57) ((s25.1 5502)).toNatClampNeg p0)) 58 (upd (s25.2.1 58) ((s25.1 5502)).toNatClampNeg p1)) 59 (upd (s25.2.1 59) ((s25.1 5502)).toNatClampNeg p2)) 60 (upd (s25.2.1 60) ((s25.1 5502)).toNatClampNeg p3)) 61 (upd (s25.2.1 61) ((s25.1 5502)).toNatClampNeg p4)) 62 (upd (s25.2.1 62) ((s25.1 5502)).toNatClampNeg p5)) 63 (upd (s25.2.1 63) ((s25.1 5502)).toNatClampNeg p6)) 64 (upd (s25.2.1 64) ((s25.1 5502)).toNatClampNeg p7)) 65 (upd (s25.2.1 65) ((s25.1 5502)).toNatClampNeg p8))) (hset_65 _ _) ?_
                              refine Ex.seg hq 6 (j := 133) (L' := [.ref 55, .int p0, .int p1, .int p2, .int p3, .int p4, .int p5, .int p6, .int p7, .int p8]) (S' := [.int (s25.1 5500), .int (s25.1 5502), .ref 66]) (h' := hpS (sA (sA (sA (sA (sA (sA (sA (sA (sA s25 57 (upd (s25.2.1 57) ((s25.1 5502)).toNatClampNeg p0)) 58 (upd (s25.2.1 58) ((s25.1 5502)).toNatClampNeg p1)) 59 (upd (s25.2.1 59) ((s25.1 5502)).toNatClampNeg p2)) 60 (upd (s25.2.1 60) ((s25.1 5502)).toNatClampNeg p3)) 61 (upd (s25.2.1 61) ((s25.1 5502)).toNatClampNeg p4)) 62 (upd (s25.2.1 62) ((s25.1 5502)).toNatClampNeg p5)) 63 (upd (s25.2.1 63) ((s25.1 5502)).toNatClampNeg p6)) 64 (upd (s25.2.1 64) ((s25.1 5502)).toNatClampNeg p7)) 65 (upd (s25.2.1 65) ((s25.1 5502)).toNatClampNeg p8))) rfl ?_
                              obtain ⟨hin, k⟩ := k
                              refine Ex.ias hq rfl rfl hin (h' := hpS (sA (sA (sA (sA (sA (sA (sA (sA (sA (sA s25 57 (upd (s25.2.1 57) ((s25.1 5502)).toNatClampNeg p0)) 58 (upd (s25.2.1 58) ((s25.1 5502)).toNatClampNeg p1)) 59 (upd (s25.2.1 59) ((s25.1 5502)).toNatClampNeg p2)) 60 (upd (s25.2.1 60) ((s25.1 5502)).toNatClampNeg p3)) 61 (upd (s25.2.1 61) ((s25.1 5502)).toNatClampNeg p4)) 62 (upd (s25.2.1 62) ((s25.1 5502)).toNatClampNeg p5)) 63 (upd (s25.2.1 63) ((s25.1 5502)).toNatClampNeg p6)) 64 (upd (s25.2.1 64) ((s25.1 5502)).toNatClampNeg p7)) 65 (upd (s25.2.1 65) ((s25.1 5502)).toNatClampNeg p8)) 66 (upd (s25.2.1 66) ((s25.1 5502)).toNatClampNeg (s25.1 5500)))) (hset_66 _ _) ?_
                              refine Ex.seg hq 5 (j := 139) (L' := [.ref 55, .int p0, .int p1, .int p2, .int p3, .int p4, .int p5, .int p6, .int p7, .int p8]) (S' := [.int (-1 : Int32), .int (s25.1 5502), .ref 67]) (h' := hpS (sA (sA (sA (sA (sA (sA (sA (sA (sA (sA s25 57 (upd (s25.2.1 57) ((s25.1 5502)).toNatClampNeg p0)) 58 (upd (s25.2.1 58) ((s25.1 5502)).toNatClampNeg p1)) 59 (upd (s25.2.1 59) ((s25.1 5502)).toNatClampNeg p2)) 60 (upd (s25.2.1 60) ((s25.1 5502)).toNatClampNeg p3)) 61 (upd (s25.2.1 61) ((s25.1 5502)).toNatClampNeg p4)) 62 (upd (s25.2.1 62) ((s25.1 5502)).toNatClampNeg p5)) 63 (upd (s25.2.1 63) ((s25.1 5502)).toNatClampNeg p6)) 64 (upd (s25.2.1 64) ((s25.1 5502)).toNatClampNeg p7)) 65 (upd (s25.2.1 65) ((s25.1 5502)).toNatClampNeg p8)) 66 (upd (s25.2.1 66) ((s25.1 5502)).toNatClampNeg (s25.1 5500)))) rfl ?_
                              obtain ⟨hin, k⟩ := k
                              refine Ex.ias hq rfl rfl hin (h' := hpS (sA (sA (sA (sA (sA (sA (sA (sA (sA (sA (sA s25 57 (upd (s25.2.1 57) ((s25.1 5502)).toNatClampNeg p0)) 58 (upd (s25.2.1 58) ((s25.1 5502)).toNatClampNeg p1)) 59 (upd (s25.2.1 59) ((s25.1 5502)).toNatClampNeg p2)) 60 (upd (s25.2.1 60) ((s25.1 5502)).toNatClampNeg p3)) 61 (upd (s25.2.1 61) ((s25.1 5502)).toNatClampNeg p4)) 62 (upd (s25.2.1 62) ((s25.1 5502)).toNatClampNeg p5)) 63 (upd (s25.2.1 63) ((s25.1 5502)).toNatClampNeg p6)) 64 (upd (s25.2.1 64) ((s25.1 5502)).toNatClampNeg p7)) 65 (upd (s25.2.1 65) ((s25.1 5502)).toNatClampNeg p8)) 66 (upd (s25.2.1 66) ((s25.1 5502)).toNatClampNeg (s25.1 5500))) 67 (upd (s25.2.1 67) ((s25.1 5502)).toNatClampNeg (-1 : Int32)))) (hset_67 _ _) ?_
                              refine Ex.seg hq 10 (j := 150) (L' := [.ref 55, .int p0, .int p1, .int p2, .int p3, .int p4, .int p5, .int p6, .int p7, .int p8]) (S' := [.int (((s25.1 5502) + (1 : Int32)) - (1 : Int32))]) (h' := hpS (sA (sA (sA (sA (sA (sA (sA (sA (sA (sA (sA (sI s25 5502 ((s25.1 5502) + (1 : Int32))) 57 (upd (s25.2.1 57) ((s25.1 5502)).toNatClampNeg p0)) 58 (upd (s25.2.1 58) ((s25.1 5502)).toNatClampNeg p1)) 59 (upd (s25.2.1 59) ((s25.1 5502)).toNatClampNeg p2)) 60 (upd (s25.2.1 60) ((s25.1 5502)).toNatClampNeg p3)) 61 (upd (s25.2.1 61) ((s25.1 5502)).toNatClampNeg p4)) 62 (upd (s25.2.1 62) ((s25.1 5502)).toNatClampNeg p5)) 63 (upd (s25.2.1 63) ((s25.1 5502)).toNatClampNeg p6)) 64 (upd (s25.2.1 64) ((s25.1 5502)).toNatClampNeg p7)) 65 (upd (s25.2.1 65) ((s25.1 5502)).toNatClampNeg p8)) 66 (upd (s25.2.1 66) ((s25.1 5502)).toNatClampNeg (s25.1 5500))) 67 (upd (s25.2.1 67) ((s25.1 5502)).toNatClampNeg (-1 : Int32)))) rfl ?_
                              exact Ex.rt hq rfl rfl ⟨(((s25.1 5502) + (1 : Int32)) - (1 : Int32)), (sA (sA (sA (sA (sA (sA (sA (sA (sA (sA (sA (sI s25 5502 ((s25.1 5502) + (1 : Int32))) 57 (upd (s25.2.1 57) ((s25.1 5502)).toNatClampNeg p0)) 58 (upd (s25.2.1 58) ((s25.1 5502)).toNatClampNeg p1)) 59 (upd (s25.2.1 59) ((s25.1 5502)).toNatClampNeg p2)) 60 (upd (s25.2.1 60) ((s25.1 5502)).toNatClampNeg p3)) 61 (upd (s25.2.1 61) ((s25.1 5502)).toNatClampNeg p4)) 62 (upd (s25.2.1 62) ((s25.1 5502)).toNatClampNeg p5)) 63 (upd (s25.2.1 63) ((s25.1 5502)).toNatClampNeg p6)) 64 (upd (s25.2.1 64) ((s25.1 5502)).toNatClampNeg p7)) 65 (upd (s25.2.1 65) ((s25.1 5502)).toNatClampNeg p8)) 66 (upd (s25.2.1 66) ((s25.1 5502)).toNatClampNeg (s25.1 5500))) 67 (upd (s25.2.1 67) ((s25.1 5502)).toNatClampNeg (-1 : Int32))), rfl, rfl, k⟩
                            · have k := k.2 c
                              refine Ex.seg hq 2 (j := 72) (L' := [.ref 55, .int p0, .int p1, .int p2, .int p3, .int p4, .int p5, .int p6, .int p7, .int p8]) (S' := [.int (-1 : Int32)]) (h' := hpS s25) rfl ?_
                              exact Ex.rt hq rfl rfl ⟨(-1 : Int32), s25, rfl, rfl, k⟩
                      · have k := k.2 c
                        refine Ex.seg hq 1 (j := 47) (L' := [.ref 55, .int p0, .int p1, .int p2, .int p3, .int p4, .int p5, .int p6, .int p7, .int p8]) (S' := [.int (-1 : Int32)]) (h' := hpS s21) rfl ?_
                        exact Ex.rt hq rfl rfl ⟨(-1 : Int32), s21, rfl, rfl, k⟩
end WP
