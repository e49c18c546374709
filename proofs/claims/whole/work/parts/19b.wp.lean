/-! ===== weakest preconditions, printed by wip/whole/genwp.py ===== -/
section WP
variable {sc : Nat × (Nat → Int32)}
/-- RowAuditor$Parser.isFaulty()Z -/
def w_60  (s : ST) (K : Int32 → ST → Prop) : Prop := (((s.1 3505) = 0 → K (0 : Int32) s) ∧ (¬ ((s.1 3505) = 0) → K (1 : Int32) s))
theorem q_60 {d : Nat} {K : Int32 → ST → Prop}  (s : ST) (k : w_60  s K) : Rn sc (d + 0) 60 [.ref 35] (hpS s) (kZ K) := by
  have hq : prog[60]? = some pm60 := rfl
  refine Rn.of (L := [.ref 35]) hq rfl rfl ?_
  unfold w_60 at k
  refine Ex.seg hq 2 (j := 2) (L' := [.ref 35]) (S' := [.int (s.1 3505)]) (h' := hpS s) rfl ?_
  refine Ex.i1 hq rfl (fun c => ?_) (fun c => ?_)
  · have k := k.1 c
    refine Ex.seg hq 1 (j := 6) (L' := [.ref 35]) (S' := [.int (0 : Int32)]) (h' := hpS s) rfl ?_
    exact Ex.zr hq rfl rfl (Or.inl rfl) ⟨(0 : Int32), s, rfl, (Or.inl rfl), rfl, k⟩
  · have k := k.2 c
    refine Ex.seg hq 2 (j := 6) (L' := [.ref 35]) (S' := [.int (1 : Int32)]) (h' := hpS s) rfl ?_
    exact Ex.zr hq rfl rfl (Or.inr rfl) ⟨(1 : Int32), s, rfl, (Or.inr rfl), rfl, k⟩
/-- RowAuditor$Parser.faultAnswer()I -/
def w_61  (s : ST) (K : Int32 → ST → Prop) : Prop := K (((-1000 : Int32) * (s.1 3505)) - (s.1 3506)) s
theorem q_61 {d : Nat} {K : Int32 → ST → Prop}  (s : ST) (k : w_61  s K) : Rn sc (d + 0) 61 [.ref 35] (hpS s) (kI K) := by
  have hq : prog[61]? = some pm61 := rfl
  refine Rn.of (L := [.ref 35]) hq rfl rfl ?_
  unfold w_61 at k
  refine Ex.seg hq 7 (j := 7) (L' := [.ref 35]) (S' := [.int (((-1000 : Int32) * (s.1 3505)) - (s.1 3506))]) (h' := hpS s) rfl ?_
  exact Ex.rt hq rfl rfl ⟨(((-1000 : Int32) * (s.1 3505)) - (s.1 3506)), s, rfl, rfl, k⟩
/-- RowAuditor$Parser.isClauseLetter(I)Z -/
def w_64 (p0 : Int32) (s : ST) (K : Int32 → ST → Prop) : Prop := ((p0 = (114 : Int32) → K (1 : Int32) s) ∧ (¬ (p0 = (114 : Int32)) → ((p0 = (108 : Int32) → K (1 : Int32) s) ∧ (¬ (p0 = (108 : Int32)) → ((¬ p0 = (120 : Int32) → K (0 : Int32) s) ∧ (¬ (¬ p0 = (120 : Int32)) → K (1 : Int32) s))))))
theorem q_64 {d : Nat} {K : Int32 → ST → Prop} (p0 : Int32) (s : ST) (k : w_64 p0 s K) : Rn sc (d + 0) 64 [.int p0] (hpS s) (kZ K) := by
  have hq : prog[64]? = some pm64 := rfl
  refine Rn.of (L := [.int p0]) hq rfl rfl ?_
  unfold w_64 at k
  refine Ex.seg hq 2 (j := 2) (L' := [.int p0]) (S' := [.int (114 : Int32), .int p0]) (h' := hpS s) rfl ?_
  refine Ex.i2 hq rfl (fun c => ?_) (fun c => ?_)
  · have k := k.1 c
    refine Ex.seg hq 2 (j := 12) (L' := [.int p0]) (S' := [.int (1 : Int32)]) (h' := hpS s) rfl ?_
    exact Ex.zr hq rfl rfl (Or.inr rfl) ⟨(1 : Int32), s, rfl, (Or.inr rfl), rfl, k⟩
  · have k := k.2 c
    refine Ex.seg hq 2 (j := 5) (L' := [.int p0]) (S' := [.int (108 : Int32), .int p0]) (h' := hpS s) rfl ?_
    refine Ex.i2 hq rfl (fun c => ?_) (fun c => ?_)
    · have k := k.1 c
      refine Ex.seg hq 2 (j := 12) (L' := [.int p0]) (S' := [.int (1 : Int32)]) (h' := hpS s) rfl ?_
      exact Ex.zr hq rfl rfl (Or.inr rfl) ⟨(1 : Int32), s, rfl, (Or.inr rfl), rfl, k⟩
    · have k := k.2 c
      refine Ex.seg hq 2 (j := 8) (L' := [.int p0]) (S' := [.int (120 : Int32), .int p0]) (h' := hpS s) rfl ?_
      refine Ex.i2 hq rfl (fun c => ?_) (fun c => ?_)
      · have k := k.1 c
        refine Ex.seg hq 1 (j := 12) (L' := [.int p0]) (S' := [.int (0 : Int32)]) (h' := hpS s) rfl ?_
        exact Ex.zr hq rfl rfl (Or.inl rfl) ⟨(0 : Int32), s, rfl, (Or.inl rfl), rfl, k⟩
      · have k := k.2 c
        refine Ex.seg hq 2 (j := 12) (L' := [.int p0]) (S' := [.int (1 : Int32)]) (h' := hpS s) rfl ?_
        exact Ex.zr hq rfl rfl (Or.inr rfl) ⟨(1 : Int32), s, rfl, (Or.inr rfl), rfl, k⟩
/-- RowAuditor$Parser.stepLetter(I)I -/
def w_68 (p0 : Int32) (s : ST) (K : Int32 → ST → Prop) : Prop := ((p0 = (111 : Int32) → K (4 : Int32) s) ∧ (p0 = (112 : Int32) → K (1 : Int32) s) ∧ (p0 = (119 : Int32) → K (2 : Int32) s) ∧ (¬ p0 = (111 : Int32) → ¬ p0 = (112 : Int32) → ¬ p0 = (119 : Int32) → K (0 : Int32) s))
theorem q_68 {d : Nat} {K : Int32 → ST → Prop} (p0 : Int32) (s : ST) (k : w_68 p0 s K) : Rn sc (d + 0) 68 [.int p0] (hpS s) (kI K) := by
  have hq : prog[68]? = some pm68 := rfl
  refine Rn.of (L := [.int p0]) hq rfl rfl ?_
  unfold w_68 at k
  refine Ex.seg hq 1 (j := 1) (L' := [.int p0]) (S' := [.int p0]) (h' := hpS s) rfl ?_
  by_cases c0 : p0 = (111 : Int32)
  · have k := k.1 c0
    refine Ex.lsw hq rfl (t := 6) (by rw [c0]; rfl) ?_
    refine Ex.seg hq 1 (j := 7) (L' := [.int p0]) (S' := [.int (4 : Int32)]) (h' := hpS s) rfl ?_
    exact Ex.rt hq rfl rfl ⟨(4 : Int32), s, rfl, rfl, k⟩
  by_cases c1 : p0 = (112 : Int32)
  · have k := k.2.1 c1
    refine Ex.lsw hq rfl (t := 2) (by rw [c1]; rfl) ?_
    refine Ex.seg hq 1 (j := 3) (L' := [.int p0]) (S' := [.int (1 : Int32)]) (h' := hpS s) rfl ?_
    exact Ex.rt hq rfl rfl ⟨(1 : Int32), s, rfl, rfl, k⟩
  by_cases c2 : p0 = (119 : Int32)
  · have k := k.2.2.1 c2
    refine Ex.lsw hq rfl (t := 4) (by rw [c2]; rfl) ?_
    refine Ex.seg hq 1 (j := 5) (L' := [.int p0]) (S' := [.int (2 : Int32)]) (h' := hpS s) rfl ?_
    exact Ex.rt hq rfl rfl ⟨(2 : Int32), s, rfl, rfl, k⟩
  have k := k.2.2.2 c0 c1 c2
  refine Ex.lsw hq rfl (t := 8) ?_ ?_
  · show plook [(111, 39), (112, 35), (119, 37)] [6, 2, 4] 8 (p0).toInt = 8
    rw [plook, if_neg (lv_neT (a := 111) c0 rfl), plook, if_neg (lv_neT (a := 112) c1 rfl), plook, if_neg (lv_neT (a := 119) c2 rfl), plook]
    all_goals (first | done | simp)
  refine Ex.seg hq 1 (j := 9) (L' := [.int p0]) (S' := [.int (0 : Int32)]) (h' := hpS s) rfl ?_
  exact Ex.rt hq rfl rfl ⟨(0 : Int32), s, rfl, rfl, k⟩
/-- RowAuditor$Parser.isFactorSign(I)Z -/
def w_75 (p0 : Int32) (s : ST) (K : Int32 → ST → Prop) : Prop := ((p0 = (42 : Int32) → K (1 : Int32) s) ∧ (¬ (p0 = (42 : Int32)) → ((p0 = (47 : Int32) → K (1 : Int32) s) ∧ (¬ (p0 = (47 : Int32)) → ((¬ p0 = (37 : Int32) → K (0 : Int32) s) ∧ (¬ (¬ p0 = (37 : Int32)) → K (1 : Int32) s))))))
theorem q_75 {d : Nat} {K : Int32 → ST → Prop} (p0 : Int32) (s : ST) (k : w_75 p0 s K) : Rn sc (d + 0) 75 [.int p0] (hpS s) (kZ K) := by
  have hq : prog[75]? = some pm75 := rfl
  refine Rn.of (L := [.int p0]) hq rfl rfl ?_
  unfold w_75 at k
  refine Ex.seg hq 2 (j := 2) (L' := [.int p0]) (S' := [.int (42 : Int32), .int p0]) (h' := hpS s) rfl ?_
  refine Ex.i2 hq rfl (fun c => ?_) (fun c => ?_)
  · have k := k.1 c
    refine Ex.seg hq 2 (j := 12) (L' := [.int p0]) (S' := [.int (1 : Int32)]) (h' := hpS s) rfl ?_
    exact Ex.zr hq rfl rfl (Or.inr rfl) ⟨(1 : Int32), s, rfl, (Or.inr rfl), rfl, k⟩
  · have k := k.2 c
    refine Ex.seg hq 2 (j := 5) (L' := [.int p0]) (S' := [.int (47 : Int32), .int p0]) (h' := hpS s) rfl ?_
    refine Ex.i2 hq rfl (fun c => ?_) (fun c => ?_)
    · have k := k.1 c
      refine Ex.seg hq 2 (j := 12) (L' := [.int p0]) (S' := [.int (1 : Int32)]) (h' := hpS s) rfl ?_
      exact Ex.zr hq rfl rfl (Or.inr rfl) ⟨(1 : Int32), s, rfl, (Or.inr rfl), rfl, k⟩
    · have k := k.2 c
      refine Ex.seg hq 2 (j := 8) (L' := [.int p0]) (S' := [.int (37 : Int32), .int p0]) (h' := hpS s) rfl ?_
      refine Ex.i2 hq rfl (fun c => ?_) (fun c => ?_)
      · have k := k.1 c
        refine Ex.seg hq 1 (j := 12) (L' := [.int p0]) (S' := [.int (0 : Int32)]) (h' := hpS s) rfl ?_
        exact Ex.zr hq rfl rfl (Or.inl rfl) ⟨(0 : Int32), s, rfl, (Or.inl rfl), rfl, k⟩
      · have k := k.2 c
        refine Ex.seg hq 2 (j := 12) (L' := [.int p0]) (S' := [.int (1 : Int32)]) (h' := hpS s) rfl ?_
        exact Ex.zr hq rfl rfl (Or.inr rfl) ⟨(1 : Int32), s, rfl, (Or.inr rfl), rfl, k⟩
/-- RowAuditor$Parser.isDigit(I)Z -/
def w_79 (p0 : Int32) (s : ST) (K : Int32 → ST → Prop) : Prop := ((p0 < (48 : Int32) → K (0 : Int32) s) ∧ (¬ (p0 < (48 : Int32)) → (((57 : Int32) < p0 → K (0 : Int32) s) ∧ (¬ ((57 : Int32) < p0) → K (1 : Int32) s))))
theorem q_79 {d : Nat} {K : Int32 → ST → Prop} (p0 : Int32) (s : ST) (k : w_79 p0 s K) : Rn sc (d + 0) 79 [.int p0] (hpS s) (kZ K) := by
  have hq : prog[79]? = some pm79 := rfl
  refine Rn.of (L := [.int p0]) hq rfl rfl ?_
  unfold w_79 at k
  refine Ex.seg hq 2 (j := 2) (L' := [.int p0]) (S' := [.int (48 : Int32), .int p0]) (h' := hpS s) rfl ?_
  refine Ex.i2 hq rfl (fun c => ?_) (fun c => ?_)
  · have k := k.1 c
    refine Ex.seg hq 1 (j := 9) (L' := [.int p0]) (S' := [.int (0 : Int32)]) (h' := hpS s) rfl ?_
    exact Ex.zr hq rfl rfl (Or.inl rfl) ⟨(0 : Int32), s, rfl, (Or.inl rfl), rfl, k⟩
  · have k := k.2 c
    refine Ex.seg hq 2 (j := 5) (L' := [.int p0]) (S' := [.int (57 : Int32), .int p0]) (h' := hpS s) rfl ?_
    refine Ex.i2 hq rfl (fun c => ?_) (fun c => ?_)
    · have k := k.1 c
      refine Ex.seg hq 1 (j := 9) (L' := [.int p0]) (S' := [.int (0 : Int32)]) (h' := hpS s) rfl ?_
      exact Ex.zr hq rfl rfl (Or.inl rfl) ⟨(0 : Int32), s, rfl, (Or.inl rfl), rfl, k⟩
    · have k := k.2 c
      refine Ex.seg hq 2 (j := 9) (L' := [.int p0]) (S' := [.int (1 : Int32)]) (h' := hpS s) rfl ?_
      exact Ex.zr hq rfl rfl (Or.inr rfl) ⟨(1 : Int32), s, rfl, (Or.inr rfl), rfl, k⟩
/-- RowAuditor$Parser.peek()I -/
def w_81  (s : ST) (K : Int32 → ST → Prop) : Prop := ((¬ (s.1 3505) = 0 → K (-1 : Int32) s) ∧ (¬ (¬ (s.1 3505) = 0) → (((s.1 3504) < 0 → K (-1 : Int32) s) ∧ (¬ ((s.1 3504) < 0) → (((s.1 3502) ≤ (s.1 3504) → K (-1 : Int32) s) ∧ (¬ ((s.1 3502) ≤ (s.1 3504)) → (pin (s.1 3504) 200 = true ∧ K ((s.2.1 27) ((s.1 3504)).toNatClampNeg) s)))))))
theorem q_81 {d : Nat} {K : Int32 → ST → Prop}  (s : ST) (k : w_81  s K) : Rn sc (d + 0) 81 [.ref 35] (hpS s) (kI K) := by
  have hq : prog[81]? = some pm81 := rfl
  refine Rn.of (L := [.ref 35]) hq rfl rfl ?_
  unfold w_81 at k
  refine Ex.seg hq 2 (j := 2) (L' := [.ref 35]) (S' := [.int (s.1 3505)]) (h' := hpS s) rfl ?_
  refine Ex.i1 hq rfl (fun c => ?_) (fun c => ?_)
  · have k := k.1 c
    refine Ex.seg hq 1 (j := 18) (L' := [.ref 35]) (S' := [.int (-1 : Int32)]) (h' := hpS s) rfl ?_
    exact Ex.rt hq rfl rfl ⟨(-1 : Int32), s, rfl, rfl, k⟩
  · have k := k.2 c
    refine Ex.seg hq 2 (j := 5) (L' := [.ref 35]) (S' := [.int (s.1 3504)]) (h' := hpS s) rfl ?_
    refine Ex.i1 hq rfl (fun c => ?_) (fun c => ?_)
    · have k := k.1 c
      refine Ex.seg hq 1 (j := 18) (L' := [.ref 35]) (S' := [.int (-1 : Int32)]) (h' := hpS s) rfl ?_
      exact Ex.rt hq rfl rfl ⟨(-1 : Int32), s, rfl, rfl, k⟩
    · have k := k.2 c
      refine Ex.seg hq 4 (j := 10) (L' := [.ref 35]) (S' := [.int (s.1 3502), .int (s.1 3504)]) (h' := hpS s) rfl ?_
      refine Ex.i2 hq rfl (fun c => ?_) (fun c => ?_)
      · have k := k.1 c
        refine Ex.seg hq 1 (j := 18) (L' := [.ref 35]) (S' := [.int (-1 : Int32)]) (h' := hpS s) rfl ?_
        exact Ex.rt hq rfl rfl ⟨(-1 : Int32), s, rfl, rfl, k⟩
      · have k := k.2 c
        refine Ex.seg hq 4 (j := 15) (L' := [.ref 35]) (S' := [.int (s.1 3504), .ref 27]) (h' := hpS s) rfl ?_
        obtain ⟨hin, k⟩ := k
        refine Ex.ial hq rfl rfl hin ?_
        refine Ex.seg hq 1 (j := 18) (L' := [.ref 35]) (S' := [.int ((s.2.1 27) ((s.1 3504)).toNatClampNeg)]) (h' := hpS s) rfl ?_
        exact Ex.rt hq rfl rfl ⟨((s.2.1 27) ((s.1 3504)).toNatClampNeg), s, rfl, rfl, k⟩
/-- RowAuditor$Parser.take(I)Z -/
def w_82 (p0 : Int32) (s : ST) (K : Int32 → ST → Prop) : Prop := w_81 s (fun r2 s1 => ((r2 = p0 → K (1 : Int32) (sI s1 3504 ((s1.1 3504) + (1 : Int32)))) ∧ (¬ (r2 = p0) → K (0 : Int32) s1)))
theorem q_82 {d : Nat} {K : Int32 → ST → Prop} (p0 : Int32) (s : ST) (k : w_82 p0 s K) : Rn sc (d + 1) 82 [.ref 35, .int p0] (hpS s) (kZ K) := by
  have hq : prog[82]? = some pm82 := rfl
  refine Rn.of (L := [.ref 35, .int p0]) hq rfl rfl ?_
  unfold w_82 at k
  refine Ex.seg hq 1 (j := 1) (L' := [.ref 35, .int p0]) (S' := [.ref 35]) (h' := hpS s) rfl ?_
  refine Ex.cl hq rfl rfl ?_
  refine Rn.mono (q_81 (d := d + 0) s k) ?_
  rintro _ _ ⟨r2, s1, rfl, rfl, k⟩
  show Ex sc (d + 1) 82 2 [.ref 35, .int p0] [.int r2] (hpS s1) _
  refine Ex.seg hq 1 (j := 3) (L' := [.ref 35, .int p0]) (S' := [.int p0, .int r2]) (h' := hpS s1) rfl ?_
  refine Ex.i2 hq rfl (fun c => ?_) (fun c => ?_)
  · have k := k.1 c
    refine Ex.seg hq 7 (j := 13) (L' := [.ref 35, .int p0]) (S' := [.int (1 : Int32)]) (h' := hpS (sI s1 3504 ((s1.1 3504) + (1 : Int32)))) rfl ?_
    exact Ex.zr hq rfl rfl (Or.inr rfl) ⟨(1 : Int32), (sI s1 3504 ((s1.1 3504) + (1 : Int32))), rfl, (Or.inr rfl), rfl, k⟩
  · have k := k.2 c
    refine Ex.seg hq 1 (j := 5) (L' := [.ref 35, .int p0]) (S' := [.int (0 : Int32)]) (h' := hpS s1) rfl ?_
    exact Ex.zr hq rfl rfl (Or.inl rfl) ⟨(0 : Int32), s1, rfl, (Or.inl rfl), rfl, k⟩
/-- RowAuditor$Parser.fail(II)V -/
def w_85 (p0 : Int32) (p1 : Int32) (s : ST) (K : ST → Prop) : Prop := ((¬ (s.1 3505) = 0 → K s) ∧ (¬ (¬ (s.1 3505) = 0) → K (sI (sI s 3505 p0) 3506 p1)))
theorem q_85 {d : Nat} {K : ST → Prop} (p0 : Int32) (p1 : Int32) (s : ST) (k : w_85 p0 p1 s K) : Rn sc (d + 0) 85 [.ref 35, .int p0, .int p1] (hpS s) (kV K) := by
  have hq : prog[85]? = some pm85 := rfl
  refine Rn.of (L := [.ref 35, .int p0, .int p1]) hq rfl rfl ?_
  unfold w_85 at k
  refine Ex.seg hq 2 (j := 2) (L' := [.ref 35, .int p0, .int p1]) (S' := [.int (s.1 3505)]) (h' := hpS s) rfl ?_
  refine Ex.i1 hq rfl (fun c => ?_) (fun c => ?_)
  · have k := k.1 c
    exact Ex.rt hq rfl rfl ⟨s, rfl, rfl, k⟩
  · have k := k.2 c
    refine Ex.seg hq 6 (j := 9) (L' := [.ref 35, .int p0, .int p1]) (S' := []) (h' := hpS (sI (sI s 3505 p0) 3506 p1)) rfl ?_
    exact Ex.rt hq rfl rfl ⟨(sI (sI s 3505 p0) 3506 p1), rfl, rfl, k⟩
/-- RowAuditor$Parser.emit(II)I -/
def w_86 (p0 : Int32) (p1 : Int32) (s : ST) (K : Int32 → ST → Prop) : Prop := (((s.1 3503) < (Int32.ofNat 160) → (pin (s.1 3503) 160 = true ∧ K (((s.1 3503) + (1 : Int32)) - (1 : Int32)) (sA (sI s 3503 ((s.1 3503) + (1 : Int32))) 36 (upd (s.2.1 36) ((s.1 3503)).toNatClampNeg ((p1 <<< ((4 : Int32) &&& 31)) ||| p0))))) ∧ (¬ ((s.1 3503) < (Int32.ofNat 160)) → K (-1 : Int32) s))
theorem q_86 {d : Nat} {K : Int32 → ST → Prop} (p0 : Int32) (p1 : Int32) (s : ST) (k : w_86 p0 p1 s K) : Rn sc (d + 0) 86 [.ref 35, .int p0, .int p1] (hpS s) (kI K) := by
  have hq : prog[86]? = some pm86 := rfl
  refine Rn.of (L := [.ref 35, .int p0, .int p1]) hq rfl rfl ?_
  unfold w_86 at k
  refine Ex.seg hq 5 (j := 5) (L' := [.ref 35, .int p0, .int p1]) (S' := [.int (Int32.ofNat 160), .int (s.1 3503)]) (h' := hpS s) rfl ?_
  refine Ex.i2 hq rfl (fun c => ?_) (fun c => ?_)
  · have k := k.1 c
    refine Ex.seg hq 9 (j := 17) (L' := [.ref 35, .int p0, .int p1]) (S' := [.int ((p1 <<< ((4 : Int32) &&& 31)) ||| p0), .int (s.1 3503), .ref 36]) (h' := hpS s) rfl ?_
    obtain ⟨hin, k⟩ := k
    refine Ex.ias hq rfl rfl hin (h' := hpS (sA s 36 (upd (s.2.1 36) ((s.1 3503)).toNatClampNeg ((p1 <<< ((4 : Int32) &&& 31)) ||| p0)))) (hset_36 _ _) ?_
    refine Ex.seg hq 10 (j := 28) (L' := [.ref 35, .int p0, .int p1]) (S' := [.int (((s.1 3503) + (1 : Int32)) - (1 : Int32))]) (h' := hpS (sA (sI s 3503 ((s.1 3503) + (1 : Int32))) 36 (upd (s.2.1 36) ((s.1 3503)).toNatClampNeg ((p1 <<< ((4 : Int32) &&& 31)) ||| p0)))) rfl ?_
    exact Ex.rt hq rfl rfl ⟨(((s.1 3503) + (1 : Int32)) - (1 : Int32)), (sA (sI s 3503 ((s.1 3503) + (1 : Int32))) 36 (upd (s.2.1 36) ((s.1 3503)).toNatClampNeg ((p1 <<< ((4 : Int32) &&& 31)) ||| p0))), rfl, rfl, k⟩
  · have k := k.2 c
    refine Ex.seg hq 1 (j := 7) (L' := [.ref 35, .int p0, .int p1]) (S' := [.int (-1 : Int32)]) (h' := hpS s) rfl ?_
    exact Ex.rt hq rfl rfl ⟨(-1 : Int32), s, rfl, rfl, k⟩
/-- RowAuditor$Readings.add(III)I -/
def w_89 (p0 : Int32) (p1 : Int32) (p2 : Int32) (s : ST) (K : Int32 → ST → Prop) : Prop := (((s.1 2300) < (9 : Int32) → (pin (s.1 2300) 9 = true ∧ (pin (s.1 2300) 9 = true ∧ (pin (s.1 2300) 9 = true ∧ K (((s.1 2300) + (1 : Int32)) - (1 : Int32)) (sA (sA (sA (sI s 2300 ((s.1 2300) + (1 : Int32))) 24 (upd (s.2.1 24) ((s.1 2300)).toNatClampNeg p0)) 25 (upd (s.2.1 25) ((s.1 2300)).toNatClampNeg p1)) 26 (upd (s.2.1 26) ((s.1 2300)).toNatClampNeg p2)))))) ∧ (¬ ((s.1 2300) < (9 : Int32)) → K (-1 : Int32) s))
theorem q_89 {d : Nat} {K : Int32 → ST → Prop} (p0 : Int32) (p1 : Int32) (p2 : Int32) (s : ST) (k : w_89 p0 p1 p2 s K) : Rn sc (d + 0) 89 [.ref 23, .int p0, .int p1, .int p2] (hpS s) (kI K) := by
  have hq : prog[89]? = some pm89 := rfl
  refine Rn.of (L := [.ref 23, .int p0, .int p1, .int p2]) hq rfl rfl ?_
  unfold w_89 at k
  refine Ex.seg hq 3 (j := 3) (L' := [.ref 23, .int p0, .int p1, .int p2]) (S' := [.int (9 : Int32), .int (s.1 2300)]) (h' := hpS s) rfl ?_
  refine Ex.i2 hq rfl (fun c => ?_) (fun c => ?_)
  · have k := k.1 c
    refine Ex.seg hq 5 (j := 11) (L' := [.ref 23, .int p0, .int p1, .int p2]) (S' := [.int p0, .int (s.1 2300), .ref 24]) (h' := hpS s) rfl ?_
    obtain ⟨hin, k⟩ := k
    refine Ex.ias hq rfl rfl hin (h' := hpS (sA s 24 (upd (s.2.1 24) ((s.1 2300)).toNatClampNeg p0))) (hset_24 _ _) ?_
    refine Ex.seg hq 5 (j := 17) (L' := [.ref 23, .int p0, .int p1, .int p2]) (S' := [.int p1, .int (s.1 2300), .ref 25]) (h' := hpS (sA s 24 (upd (s.2.1 24) ((s.1 2300)).toNatClampNeg p0))) rfl ?_
    obtain ⟨hin, k⟩ := k
    refine Ex.ias hq rfl rfl hin (h' := hpS (sA (sA s 24 (upd (s.2.1 24) ((s.1 2300)).toNatClampNeg p0)) 25 (upd (s.2.1 25) ((s.1 2300)).toNatClampNeg p1))) (hset_25 _ _) ?_
    refine Ex.seg hq 5 (j := 23) (L' := [.ref 23, .int p0, .int p1, .int p2]) (S' := [.int p2, .int (s.1 2300), .ref 26]) (h' := hpS (sA (sA s 24 (upd (s.2.1 24) ((s.1 2300)).toNatClampNeg p0)) 25 (upd (s.2.1 25) ((s.1 2300)).toNatClampNeg p1))) rfl ?_
    obtain ⟨hin, k⟩ := k
    refine Ex.ias hq rfl rfl hin (h' := hpS (sA (sA (sA s 24 (upd (s.2.1 24) ((s.1 2300)).toNatClampNeg p0)) 25 (upd (s.2.1 25) ((s.1 2300)).toNatClampNeg p1)) 26 (upd (s.2.1 26) ((s.1 2300)).toNatClampNeg p2))) (hset_26 _ _) ?_
    refine Ex.seg hq 10 (j := 34) (L' := [.ref 23, .int p0, .int p1, .int p2]) (S' := [.int (((s.1 2300) + (1 : Int32)) - (1 : Int32))]) (h' := hpS (sA (sA (sA (sI s 2300 ((s.1 2300) + (1 : Int32))) 24 (upd (s.2.1 24) ((s.1 2300)).toNatClampNeg p0)) 25 (upd (s.2.1 25) ((s.1 2300)).toNatClampNeg p1)) 26 (upd (s.2.1 26) ((s.1 2300)).toNatClampNeg p2))) rfl ?_
    exact Ex.rt hq rfl rfl ⟨(((s.1 2300) + (1 : Int32)) - (1 : Int32)), (sA (sA (sA (sI s 2300 ((s.1 2300) + (1 : Int32))) 24 (upd (s.2.1 24) ((s.1 2300)).toNatClampNeg p0)) 25 (upd (s.2.1 25) ((s.1 2300)).toNatClampNeg p1)) 26 (upd (s.2.1 26) ((s.1 2300)).toNatClampNeg p2)), rfl, rfl, k⟩
  · have k := k.2 c
    refine Ex.seg hq 1 (j := 5) (L' := [.ref 23, .int p0, .int p1, .int p2]) (S' := [.int (-1 : Int32)]) (h' := hpS s) rfl ?_
    exact Ex.rt hq rfl rfl ⟨(-1 : Int32), s, rfl, rfl, k⟩
/-- RowAuditor$Readings.allSets()I -/
def w_90  (s : ST) (K : Int32 → ST → Prop) : Prop := K ((1 : Int32) <<< ((s.1 2300) &&& 31)) s
theorem q_90 {d : Nat} {K : Int32 → ST → Prop}  (s : ST) (k : w_90  s K) : Rn sc (d + 0) 90 [.ref 23] (hpS s) (kI K) := by
  have hq : prog[90]? = some pm90 := rfl
  refine Rn.of (L := [.ref 23]) hq rfl rfl ?_
  unfold w_90 at k
  refine Ex.seg hq 4 (j := 4) (L' := [.ref 23]) (S' := [.int ((1 : Int32) <<< ((s.1 2300) &&& 31))]) (h' := hpS s) rfl ?_
  exact Ex.rt hq rfl rfl ⟨((1 : Int32) <<< ((s.1 2300) &&& 31)), s, rfl, rfl, k⟩
/-- RowAuditor$Rounder.isMove(I)Z -/
def w_98 (p0 : Int32) (s : ST) (K : Int32 → ST → Prop) : Prop := w_9 p0 (0 : Int32) s (fun r2 s1 => ((¬ r2 = (2 : Int32) → K (0 : Int32) s1) ∧ (¬ (¬ r2 = (2 : Int32)) → K (1 : Int32) s1)))
theorem q_98 {d : Nat} {K : Int32 → ST → Prop} (p0 : Int32) (s : ST) (k : w_98 p0 s K) : Rn sc (d + 1) 98 [.ref 46, .int p0] (hpS s) (kZ K) := by
  have hq : prog[98]? = some pm98 := rfl
  refine Rn.of (L := [.ref 46, .int p0]) hq rfl rfl ?_
  unfold w_98 at k
  refine Ex.seg hq 4 (j := 4) (L' := [.ref 46, .int p0]) (S' := [.int (0 : Int32), .int p0, .ref 1]) (h' := hpS s) rfl ?_
  refine Ex.cl hq rfl rfl ?_
  refine Rn.mono (q_9 (d := d + 0) p0 (0 : Int32) s k) ?_
  rintro _ _ ⟨r2, s1, rfl, rfl, k⟩
  show Ex sc (d + 1) 98 5 [.ref 46, .int p0] [.int r2] (hpS s1) _
  refine Ex.seg hq 1 (j := 6) (L' := [.ref 46, .int p0]) (S' := [.int (2 : Int32), .int r2]) (h' := hpS s1) rfl ?_
  refine Ex.i2 hq rfl (fun c => ?_) (fun c => ?_)
  · have k := k.1 c
    refine Ex.seg hq 1 (j := 10) (L' := [.ref 46, .int p0]) (S' := [.int (0 : Int32)]) (h' := hpS s1) rfl ?_
    exact Ex.zr hq rfl rfl (Or.inl rfl) ⟨(0 : Int32), s1, rfl, (Or.inl rfl), rfl, k⟩
  · have k := k.2 c
    refine Ex.seg hq 2 (j := 10) (L' := [.ref 46, .int p0]) (S' := [.int (1 : Int32)]) (h' := hpS s1) rfl ?_
    exact Ex.zr hq rfl rfl (Or.inr rfl) ⟨(1 : Int32), s1, rfl, (Or.inr rfl), rfl, k⟩
/-- RowAuditor$Rounder.stayOf(II)I -/
def w_100 (p0 : Int32) (p1 : Int32) (s : ST) (K : Int32 → ST → Prop) : Prop := ((¬ p0 = p1 → ((p1 ≤ p0 → K (p0 - (1 : Int32)) s) ∧ (¬ (p1 ≤ p0) → K p0 s))) ∧ (¬ (¬ p0 = p1) → K (-1 : Int32) s))
theorem q_100 {d : Nat} {K : Int32 → ST → Prop} (p0 : Int32) (p1 : Int32) (s : ST) (k : w_100 p0 p1 s K) : Rn sc (d + 0) 100 [.int p0, .int p1] (hpS s) (kI K) := by
  have hq : prog[100]? = some pm100 := rfl
  refine Rn.of (L := [.int p0, .int p1]) hq rfl rfl ?_
  unfold w_100 at k
  refine Ex.seg hq 2 (j := 2) (L' := [.int p0, .int p1]) (S' := [.int p1, .int p0]) (h' := hpS s) rfl ?_
  refine Ex.i2 hq rfl (fun c => ?_) (fun c => ?_)
  · have k := k.1 c
    refine Ex.seg hq 2 (j := 7) (L' := [.int p0, .int p1]) (S' := [.int p1, .int p0]) (h' := hpS s) rfl ?_
    refine Ex.i2 hq rfl (fun c => ?_) (fun c => ?_)
    · have k := k.1 c
      refine Ex.seg hq 3 (j := 13) (L' := [.int p0, .int p1]) (S' := [.int (p0 - (1 : Int32))]) (h' := hpS s) rfl ?_
      exact Ex.rt hq rfl rfl ⟨(p0 - (1 : Int32)), s, rfl, rfl, k⟩
    · have k := k.2 c
      refine Ex.seg hq 2 (j := 13) (L' := [.int p0, .int p1]) (S' := [.int p0]) (h' := hpS s) rfl ?_
      exact Ex.rt hq rfl rfl ⟨p0, s, rfl, rfl, k⟩
  · have k := k.2 c
    refine Ex.seg hq 2 (j := 13) (L' := [.int p0, .int p1]) (S' := [.int (-1 : Int32)]) (h' := hpS s) rfl ?_
    exact Ex.rt hq rfl rfl ⟨(-1 : Int32), s, rfl, rfl, k⟩
/-- RowAuditor$Rounder.indexOf(II)I -/
def w_104 (p0 : Int32) (p1 : Int32) (s : ST) (K : Int32 → ST → Prop) : Prop := K ((p0 * (256 : Int32)) + (((p1 >>> ((p0 + (1 : Int32)) &&& 31)) <<< (p0 &&& 31)) ||| (p1 &&& (((1 : Int32) <<< (p0 &&& 31)) - (1 : Int32))))) s
theorem q_104 {d : Nat} {K : Int32 → ST → Prop} (p0 : Int32) (p1 : Int32) (s : ST) (k : w_104 p0 p1 s K) : Rn sc (d + 0) 104 [.int p0, .int p1] (hpS s) (kI K) := by
  have hq : prog[104]? = some pm104 := rfl
  refine Rn.of (L := [.int p0, .int p1, pu, pu]) hq rfl rfl ?_
  unfold w_104 at k
  refine Ex.seg hq 23 (j := 23) (L' := [.int p0, .int p1, .int (p1 &&& (((1 : Int32) <<< (p0 &&& 31)) - (1 : Int32))), .int ((p1 >>> ((p0 + (1 : Int32)) &&& 31)) <<< (p0 &&& 31))]) (S' := [.int ((p0 * (256 : Int32)) + (((p1 >>> ((p0 + (1 : Int32)) &&& 31)) <<< (p0 &&& 31)) ||| (p1 &&& (((1 : Int32) <<< (p0 &&& 31)) - (1 : Int32)))))]) (h' := hpS s) rfl ?_
  exact Ex.rt hq rfl rfl ⟨((p0 * (256 : Int32)) + (((p1 >>> ((p0 + (1 : Int32)) &&& 31)) <<< (p0 &&& 31)) ||| (p1 &&& (((1 : Int32) <<< (p0 &&& 31)) - (1 : Int32))))), s, rfl, rfl, k⟩
def w_112_2 : Nat → Int32 → ST → (ST → Prop) → (ST → Prop) → Prop
  | 0, _, _, _, _ => False
  | n + 1, x1, s, X28, K => (((s.1 102) ≤ x1 → X28  s) ∧ (¬ ((s.1 102) ≤ x1) → w_9 x1 (9 : Int32) s (fun r2 s1 => (((s1.1 800) < r2 → (pin x1 150 = true ∧ w_112_2 n (x1 + (1 : Int32)) (sA s1 9 (upd (s1.2.1 9) (x1).toNatClampNeg (0 : Int32))) X28 K)) ∧ (¬ ((s1.1 800) < r2) → w_9 x1 (5 : Int32) s1 (fun r4 s3 => (pin x1 150 = true ∧ w_112_2 n (x1 + (1 : Int32)) (sA s3 9 (upd (s3.2.1 9) (x1).toNatClampNeg r4)) X28 K)))))))
theorem q_112_2 {d : Nat} {X28 : ST → Prop} {K : ST → Prop} : ∀ (n : Nat) (x1 : Int32) (s : ST), w_112_2 n x1 s X28 K → (∀ (s : ST), X28  s → Ex sc (d + 1) 112 28 [.ref 8, pu, pu] [] (hpS s) (kV K)) → Ex sc (d + 1) 112 2 [.ref 8, .int x1, pu] [] (hpS s) (kV K) := by
  have hq : prog[112]? = some pm112 := rfl
  intro n
  induction n with
  | zero =>
    intro x1 s k
    exact k.elim
  | succ n ih =>
    intro x1 s k hX28
    rw [w_112_2] at k
    refine Ex.seg hq 4 (j := 6) (L' := [.ref 8, .int x1, pu]) (S' := [.int (s.1 102), .int x1]) (h' := hpS s) rfl ?_
    refine Ex.i2 hq rfl (fun c => ?_) (fun c => ?_)
    · have k := k.1 c
      refine Ex.fg (L := [.ref 8, pu, pu]) ⟨Or.inl rfl, ⟨Or.inr ⟨rfl, rfl⟩, ⟨Or.inl rfl, trivial⟩⟩⟩ ?_
      exact hX28  s k
    · have k := k.2 c
      refine Ex.seg hq 7 (j := 14) (L' := [.ref 8, .int x1, pu]) (S' := [.int (9 : Int32), .int x1, .ref 1, .int x1, .ref 9]) (h' := hpS s) rfl ?_
      refine Ex.cl hq rfl rfl ?_
      refine Rn.mono (q_9 (d := d + 0) x1 (9 : Int32) s k) ?_
      rintro _ _ ⟨r2, s1, rfl, rfl, k⟩
      show Ex sc (d + 1) 112 15 [.ref 8, .int x1, pu] [.int r2, .int x1, .ref 9] (hpS s1) _
      refine Ex.seg hq 2 (j := 17) (L' := [.ref 8, .int x1, pu]) (S' := [.int (s1.1 800), .int r2, .int x1, .ref 9]) (h' := hpS s1) rfl ?_
      refine Ex.i2 hq rfl (fun c => ?_) (fun c => ?_)
      · have k := k.1 c
        refine Ex.seg hq 1 (j := 25) (L' := [.ref 8, .int x1, pu]) (S' := [.int (0 : Int32), .int x1, .ref 9]) (h' := hpS s1) rfl ?_
        obtain ⟨hin, k⟩ := k
        refine Ex.ias hq rfl rfl hin (h' := hpS (sA s1 9 (upd (s1.2.1 9) (x1).toNatClampNeg (0 : Int32)))) (hset_9 _ _) ?_
        refine Ex.seg hq 2 (j := 2) (L' := [.ref 8, .int (x1 + (1 : Int32)), pu]) (S' := []) (h' := hpS (sA s1 9 (upd (s1.2.1 9) (x1).toNatClampNeg (0 : Int32)))) rfl ?_
        exact ih (x1 + (1 : Int32)) (sA s1 9 (upd (s1.2.1 9) (x1).toNatClampNeg (0 : Int32))) k hX28
      · have k := k.2 c
        refine Ex.seg hq 4 (j := 22) (L' := [.ref 8, .int x1, pu]) (S' := [.int (5 : Int32), .int x1, .ref 1, .int x1, .ref 9]) (h' := hpS s1) rfl ?_
        refine Ex.cl hq rfl rfl ?_
        refine Rn.mono (q_9 (d := d + 0) x1 (5 : Int32) s1 k) ?_
        rintro _ _ ⟨r4, s3, rfl, rfl, k⟩
        show Ex sc (d + 1) 112 23 [.ref 8, .int x1, pu] [.int r4, .int x1, .ref 9] (hpS s3) _
        refine Ex.seg hq 1 (j := 25) (L' := [.ref 8, .int x1, pu]) (S' := [.int r4, .int x1, .ref 9]) (h' := hpS s3) rfl ?_
        obtain ⟨hin, k⟩ := k
        refine Ex.ias hq rfl rfl hin (h' := hpS (sA s3 9 (upd (s3.2.1 9) (x1).toNatClampNeg r4))) (hset_9 _ _) ?_
        refine Ex.seg hq 2 (j := 2) (L' := [.ref 8, .int (x1 + (1 : Int32)), pu]) (S' := []) (h' := hpS (sA s3 9 (upd (s3.2.1 9) (x1).toNatClampNeg r4))) rfl ?_
        exact ih (x1 + (1 : Int32)) (sA s3 9 (upd (s3.2.1 9) (x1).toNatClampNeg r4)) k hX28
def w_112_30 : Nat → Int32 → ST → (ST → Prop) → (ST → Prop) → Prop
  | 0, _, _, _, _ => False
  | n + 1, x1, s, X62, K => (((s.1 103) ≤ x1 → X62  s) ∧ (¬ ((s.1 103) ≤ x1) → w_14 x1 s (fun r7 s6 => (((s6.1 800) < r7 → X62  s6) ∧ (¬ ((s6.1 800) < r7) → w_12 x1 s6 (fun r9 s8 => w_2 r9 s8 (fun r11 s10 => ((r11 = 0 → w_112_30 n (x1 + (1 : Int32)) s10 X62 K) ∧ (¬ (r11 = 0) → w_13 x1 s10 (fun r13 s12 => (pin r9 150 = true ∧ w_112_30 n (x1 + (1 : Int32)) (sA s12 9 (upd (s12.2.1 9) (r9).toNatClampNeg r13)) X62 K)))))))))))
theorem q_112_30 {d : Nat} {X62 : ST → Prop} {K : ST → Prop} : ∀ (n : Nat) (x1 : Int32) (s : ST), w_112_30 n x1 s X62 K → (∀ (s : ST), X62  s → Ex sc (d + 1) 112 62 [pu, pu, pu] [] (hpS s) (kV K)) → Ex sc (d + 1) 112 30 [.ref 8, .int x1, pu] [] (hpS s) (kV K) := by
  have hq : prog[112]? = some pm112 := rfl
  intro n
  induction n with
  | zero =>
    intro x1 s k
    exact k.elim
  | succ n ih =>
    intro x1 s k hX62
    rw [w_112_30] at k
    refine Ex.seg hq 4 (j := 34) (L' := [.ref 8, .int x1, pu]) (S' := [.int (s.1 103), .int x1]) (h' := hpS s) rfl ?_
    refine Ex.i2 hq rfl (fun c => ?_) (fun c => ?_)
    · have k := k.1 c
      refine Ex.fg (L := [pu, pu, pu]) ⟨Or.inr ⟨rfl, rfl⟩, ⟨Or.inr ⟨rfl, rfl⟩, ⟨Or.inl rfl, trivial⟩⟩⟩ ?_
      exact hX62  s k
    · have k := k.2 c
      refine Ex.seg hq 3 (j := 38) (L' := [.ref 8, .int x1, pu]) (S' := [.int x1, .ref 1]) (h' := hpS s) rfl ?_
      refine Ex.cl hq rfl rfl ?_
      refine Rn.mono (q_14 (d := d + 0) x1 s k) ?_
      rintro _ _ ⟨r7, s6, rfl, rfl, k⟩
      show Ex sc (d + 1) 112 39 [.ref 8, .int x1, pu] [.int r7] (hpS s6) _
      refine Ex.seg hq 2 (j := 41) (L' := [.ref 8, .int x1, pu]) (S' := [.int (s6.1 800), .int r7]) (h' := hpS s6) rfl ?_
      refine Ex.i2 hq rfl (fun c => ?_) (fun c => ?_)
      · have k := k.1 c
        refine Ex.fg (L := [pu, pu, pu]) ⟨Or.inr ⟨rfl, rfl⟩, ⟨Or.inr ⟨rfl, rfl⟩, ⟨Or.inl rfl, trivial⟩⟩⟩ ?_
        exact hX62  s6 k
      · have k := k.2 c
        refine Ex.seg hq 3 (j := 45) (L' := [.ref 8, .int x1, pu]) (S' := [.int x1, .ref 1]) (h' := hpS s6) rfl ?_
        refine Ex.cl hq rfl rfl ?_
        refine Rn.mono (q_12 (d := d + 0) x1 s6 k) ?_
        rintro _ _ ⟨r9, s8, rfl, rfl, k⟩
        show Ex sc (d + 1) 112 46 [.ref 8, .int x1, pu] [.int r9] (hpS s8) _
        refine Ex.seg hq 4 (j := 50) (L' := [.ref 8, .int x1, .int r9]) (S' := [.int r9, .ref 1]) (h' := hpS s8) rfl ?_
        refine Ex.cl hq rfl rfl ?_
        refine Rn.mono (q_2 (d := d + 0) r9 s8 k) ?_
        rintro _ _ ⟨r11, s10, rfl, hzr11, rfl, k⟩
        show Ex sc (d + 1) 112 51 [.ref 8, .int x1, .int r9] [.int r11] (hpS s10) _
        refine Ex.i1 hq rfl (fun c => ?_) (fun c => ?_)
        · have k := k.1 c
          refine Ex.seg hq 2 (j := 30) (L' := [.ref 8, .int (x1 + (1 : Int32)), .int r9]) (S' := []) (h' := hpS s10) rfl ?_
          refine Ex.fg (L := [.ref 8, .int (x1 + (1 : Int32)), pu]) ⟨Or.inl rfl, ⟨Or.inl rfl, ⟨Or.inr ⟨rfl, rfl⟩, trivial⟩⟩⟩ ?_
          exact ih (x1 + (1 : Int32)) s10 k hX62
        · have k := k.2 c
          refine Ex.seg hq 6 (j := 58) (L' := [.ref 8, .int x1, .int r9]) (S' := [.int x1, .ref 1, .int r9, .ref 9]) (h' := hpS s10) rfl ?_
          refine Ex.cl hq rfl rfl ?_
          refine Rn.mono (q_13 (d := d + 0) x1 s10 k) ?_
          rintro _ _ ⟨r13, s12, rfl, rfl, k⟩
          show Ex sc (d + 1) 112 59 [.ref 8, .int x1, .int r9] [.int r13, .int r9, .ref 9] (hpS s12) _
          obtain ⟨hin, k⟩ := k
          refine Ex.ias hq rfl rfl hin (h' := hpS (sA s12 9 (upd (s12.2.1 9) (r9).toNatClampNeg r13))) (hset_9 _ _) ?_
          refine Ex.seg hq 2 (j := 30) (L' := [.ref 8, .int (x1 + (1 : Int32)), .int r9]) (S' := []) (h' := hpS (sA s12 9 (upd (s12.2.1 9) (r9).toNatClampNeg r13))) rfl ?_
          refine Ex.fg (L := [.ref 8, .int (x1 + (1 : Int32)), pu]) ⟨Or.inl rfl, ⟨Or.inl rfl, ⟨Or.inr ⟨rfl, rfl⟩, trivial⟩⟩⟩ ?_
          exact ih (x1 + (1 : Int32)) (sA s12 9 (upd (s12.2.1 9) (r9).toNatClampNeg r13)) k hX62
/-- RowAuditor$View.readSums()V -/
def w_112  (s : ST) (K : ST → Prop) : Prop := (∃ m, w_112_2 m (0 : Int32) s (fun s5 => (∃ m, w_112_30 m (0 : Int32) s5 (fun s14 => K s14) K)) K)
theorem q_112 {d : Nat} {K : ST → Prop}  (s : ST) (k : w_112  s K) : Rn sc (d + 1) 112 [.ref 8] (hpS s) (kV K) := by
  have hq : prog[112]? = some pm112 := rfl
  refine Rn.of (L := [.ref 8, pu, pu]) hq rfl rfl ?_
  unfold w_112 at k
  refine Ex.seg hq 2 (j := 2) (L' := [.ref 8, .int (0 : Int32), pu]) (S' := []) (h' := hpS s) rfl ?_
  obtain ⟨m, k⟩ := k
  refine q_112_2 (d := d) m (0 : Int32) s k ?_
  · intro s5 k
    refine Ex.seg hq 2 (j := 30) (L' := [.ref 8, .int (0 : Int32), pu]) (S' := []) (h' := hpS s5) rfl ?_
    obtain ⟨m, k⟩ := k
    refine q_112_30 (d := d) m (0 : Int32) s5 k ?_
    · intro s14 k
      exact Ex.rt hq rfl rfl ⟨s14, rfl, rfl, k⟩
/-- RowAuditor$View.groupOf(I)I -/
def w_117 (p0 : Int32) (s : ST) (K : Int32 → ST → Prop) : Prop := w_9 p0 (0 : Int32) s (fun r2 s1 => ((r2 = 0 → w_9 p0 (2 : Int32) s1 (fun r4 s3 => K ((r2 * (20 : Int32)) + r4) s3)) ∧ (¬ (r2 = 0) → ((¬ r2 = (1 : Int32) → K (-1 : Int32) s1) ∧ (¬ (¬ r2 = (1 : Int32)) → w_9 p0 (2 : Int32) s1 (fun r6 s5 => K ((r2 * (20 : Int32)) + r6) s5))))))
theorem q_117 {d : Nat} {K : Int32 → ST → Prop} (p0 : Int32) (s : ST) (k : w_117 p0 s K) : Rn sc (d + 1) 117 [.ref 8, .int p0] (hpS s) (kI K) := by
  have hq : prog[117]? = some pm117 := rfl
  refine Rn.of (L := [.ref 8, .int p0, pu]) hq rfl rfl ?_
  unfold w_117 at k
  refine Ex.seg hq 4 (j := 4) (L' := [.ref 8, .int p0, pu]) (S' := [.int (0 : Int32), .int p0, .ref 1]) (h' := hpS s) rfl ?_
  refine Ex.cl hq rfl rfl ?_
  refine Rn.mono (q_9 (d := d + 0) p0 (0 : Int32) s k) ?_
  rintro _ _ ⟨r2, s1, rfl, rfl, k⟩
  show Ex sc (d + 1) 117 5 [.ref 8, .int p0, pu] [.int r2] (hpS s1) _
  refine Ex.seg hq 2 (j := 7) (L' := [.ref 8, .int p0, .int r2]) (S' := [.int r2]) (h' := hpS s1) rfl ?_
  refine Ex.i1 hq rfl (fun c => ?_) (fun c => ?_)
  · have k := k.1 c
    refine Ex.seg hq 7 (j := 18) (L' := [.ref 8, .int p0, .int r2]) (S' := [.int (2 : Int32), .int p0, .ref 1, .int (r2 * (20 : Int32))]) (h' := hpS s1) rfl ?_
    refine Ex.cl hq rfl rfl ?_
    refine Rn.mono (q_9 (d := d + 0) p0 (2 : Int32) s1 k) ?_
    rintro _ _ ⟨r4, s3, rfl, rfl, k⟩
    show Ex sc (d + 1) 117 19 [.ref 8, .int p0, .int r2] [.int r4, .int (r2 * (20 : Int32))] (hpS s3) _
    refine Ex.seg hq 2 (j := 22) (L' := [.ref 8, .int p0, .int r2]) (S' := [.int ((r2 * (20 : Int32)) + r4)]) (h' := hpS s3) rfl ?_
    exact Ex.rt hq rfl rfl ⟨((r2 * (20 : Int32)) + r4), s3, rfl, rfl, k⟩
  · have k := k.2 c
    refine Ex.seg hq 2 (j := 10) (L' := [.ref 8, .int p0, .int r2]) (S' := [.int (1 : Int32), .int r2]) (h' := hpS s1) rfl ?_
    refine Ex.i2 hq rfl (fun c => ?_) (fun c => ?_)
    · have k := k.1 c
      refine Ex.seg hq 1 (j := 22) (L' := [.ref 8, .int p0, .int r2]) (S' := [.int (-1 : Int32)]) (h' := hpS s1) rfl ?_
      exact Ex.rt hq rfl rfl ⟨(-1 : Int32), s1, rfl, rfl, k⟩
    · have k := k.2 c
      refine Ex.seg hq 7 (j := 18) (L' := [.ref 8, .int p0, .int r2]) (S' := [.int (2 : Int32), .int p0, .ref 1, .int (r2 * (20 : Int32))]) (h' := hpS s1) rfl ?_
      refine Ex.cl hq rfl rfl ?_
      refine Rn.mono (q_9 (d := d + 0) p0 (2 : Int32) s1 k) ?_
      rintro _ _ ⟨r6, s5, rfl, rfl, k⟩
      show Ex sc (d + 1) 117 19 [.ref 8, .int p0, .int r2] [.int r6, .int (r2 * (20 : Int32))] (hpS s5) _
      refine Ex.seg hq 2 (j := 22) (L' := [.ref 8, .int p0, .int r2]) (S' := [.int ((r2 * (20 : Int32)) + r6)]) (h' := hpS s5) rfl ?_
      exact Ex.rt hq rfl rfl ⟨((r2 * (20 : Int32)) + r6), s5, rfl, rfl, k⟩
/-- RowAuditor$View.isKnown(I)Z -/
def w_118 (p0 : Int32) (s : ST) (K : Int32 → ST → Prop) : Prop := ((p0 < 0 → K (0 : Int32) s) ∧ (¬ (p0 < 0) → (((150 : Int32) ≤ p0 → K (0 : Int32) s) ∧ (¬ ((150 : Int32) ≤ p0) → (pin p0 150 = true ∧ ((((s.2.1 9) (p0).toNatClampNeg) ≤ 0 → K (0 : Int32) s) ∧ (¬ (((s.2.1 9) (p0).toNatClampNeg) ≤ 0) → K (1 : Int32) s)))))))
theorem q_118 {d : Nat} {K : Int32 → ST → Prop} (p0 : Int32) (s : ST) (k : w_118 p0 s K) : Rn sc (d + 0) 118 [.ref 8, .int p0] (hpS s) (kZ K) := by
  have hq : prog[118]? = some pm118 := rfl
  refine Rn.of (L := [.ref 8, .int p0]) hq rfl rfl ?_
  unfold w_118 at k
  refine Ex.seg hq 1 (j := 1) (L' := [.ref 8, .int p0]) (S' := [.int p0]) (h' := hpS s) rfl ?_
  refine Ex.i1 hq rfl (fun c => ?_) (fun c => ?_)
  · have k := k.1 c
    refine Ex.seg hq 1 (j := 13) (L' := [.ref 8, .int p0]) (S' := [.int (0 : Int32)]) (h' := hpS s) rfl ?_
    exact Ex.zr hq rfl rfl (Or.inl rfl) ⟨(0 : Int32), s, rfl, (Or.inl rfl), rfl, k⟩
  · have k := k.2 c
    refine Ex.seg hq 2 (j := 4) (L' := [.ref 8, .int p0]) (S' := [.int (150 : Int32), .int p0]) (h' := hpS s) rfl ?_
    refine Ex.i2 hq rfl (fun c => ?_) (fun c => ?_)
    · have k := k.1 c
      refine Ex.seg hq 1 (j := 13) (L' := [.ref 8, .int p0]) (S' := [.int (0 : Int32)]) (h' := hpS s) rfl ?_
      exact Ex.zr hq rfl rfl (Or.inl rfl) ⟨(0 : Int32), s, rfl, (Or.inl rfl), rfl, k⟩
    · have k := k.2 c
      refine Ex.seg hq 3 (j := 8) (L' := [.ref 8, .int p0]) (S' := [.int p0, .ref 9]) (h' := hpS s) rfl ?_
      obtain ⟨hin, k⟩ := k
      refine Ex.ial hq rfl rfl hin ?_
      refine Ex.i1 hq rfl (fun c => ?_) (fun c => ?_)
      · have k := k.1 c
        refine Ex.seg hq 1 (j := 13) (L' := [.ref 8, .int p0]) (S' := [.int (0 : Int32)]) (h' := hpS s) rfl ?_
        exact Ex.zr hq rfl rfl (Or.inl rfl) ⟨(0 : Int32), s, rfl, (Or.inl rfl), rfl, k⟩
      · have k := k.2 c
        refine Ex.seg hq 2 (j := 13) (L' := [.ref 8, .int p0]) (S' := [.int (1 : Int32)]) (h' := hpS s) rfl ?_
        exact Ex.zr hq rfl rfl (Or.inr rfl) ⟨(1 : Int32), s, rfl, (Or.inr rfl), rfl, k⟩
/-- RowAuditor$View.sumOf(I)I -/
def w_119 (p0 : Int32) (s : ST) (K : Int32 → ST → Prop) : Prop := ((p0 < 0 → K (0 : Int32) s) ∧ (¬ (p0 < 0) → (((150 : Int32) ≤ p0 → K (0 : Int32) s) ∧ (¬ ((150 : Int32) ≤ p0) → (pin p0 150 = true ∧ K ((s.2.1 9) (p0).toNatClampNeg) s)))))
theorem q_119 {d : Nat} {K : Int32 → ST → Prop} (p0 : Int32) (s : ST) (k : w_119 p0 s K) : Rn sc (d + 0) 119 [.ref 8, .int p0] (hpS s) (kI K) := by
  have hq : prog[119]? = some pm119 := rfl
  refine Rn.of (L := [.ref 8, .int p0]) hq rfl rfl ?_
  unfold w_119 at k
  refine Ex.seg hq 1 (j := 1) (L' := [.ref 8, .int p0]) (S' := [.int p0]) (h' := hpS s) rfl ?_
  refine Ex.i1 hq rfl (fun c => ?_) (fun c => ?_)
  · have k := k.1 c
    refine Ex.seg hq 1 (j := 11) (L' := [.ref 8, .int p0]) (S' := [.int (0 : Int32)]) (h' := hpS s) rfl ?_
    exact Ex.rt hq rfl rfl ⟨(0 : Int32), s, rfl, rfl, k⟩
  · have k := k.2 c
    refine Ex.seg hq 2 (j := 4) (L' := [.ref 8, .int p0]) (S' := [.int (150 : Int32), .int p0]) (h' := hpS s) rfl ?_
    refine Ex.i2 hq rfl (fun c => ?_) (fun c => ?_)
    · have k := k.1 c
      refine Ex.seg hq 1 (j := 11) (L' := [.ref 8, .int p0]) (S' := [.int (0 : Int32)]) (h' := hpS s) rfl ?_
      exact Ex.rt hq rfl rfl ⟨(0 : Int32), s, rfl, rfl, k⟩
    · have k := k.2 c
      refine Ex.seg hq 3 (j := 8) (L' := [.ref 8, .int p0]) (S' := [.int p0, .ref 9]) (h' := hpS s) rfl ?_
      obtain ⟨hin, k⟩ := k
      refine Ex.ial hq rfl rfl hin ?_
      refine Ex.seg hq 1 (j := 11) (L' := [.ref 8, .int p0]) (S' := [.int ((s.2.1 9) (p0).toNatClampNeg)]) (h' := hpS s) rfl ?_
      exact Ex.rt hq rfl rfl ⟨((s.2.1 9) (p0).toNatClampNeg), s, rfl, rfl, k⟩
/-- RowAuditor$View.placeOf(I)I -/
def w_120 (p0 : Int32) (s : ST) (K : Int32 → ST → Prop) : Prop := ((p0 < 0 → K (-1 : Int32) s) ∧ (¬ (p0 < 0) → (((150 : Int32) ≤ p0 → K (-1 : Int32) s) ∧ (¬ ((150 : Int32) ≤ p0) → (pin p0 150 = true ∧ ((((s.2.1 9) (p0).toNatClampNeg) ≤ 0 → K (-1 : Int32) s) ∧ (¬ (((s.2.1 9) (p0).toNatClampNeg) ≤ 0) → (pin p0 150 = true ∧ K ((s.2.1 10) (p0).toNatClampNeg) s))))))))
theorem q_120 {d : Nat} {K : Int32 → ST → Prop} (p0 : Int32) (s : ST) (k : w_120 p0 s K) : Rn sc (d + 0) 120 [.ref 8, .int p0] (hpS s) (kI K) := by
  have hq : prog[120]? = some pm120 := rfl
  refine Rn.of (L := [.ref 8, .int p0]) hq rfl rfl ?_
  unfold w_120 at k
  refine Ex.seg hq 1 (j := 1) (L' := [.ref 8, .int p0]) (S' := [.int p0]) (h' := hpS s) rfl ?_
  refine Ex.i1 hq rfl (fun c => ?_) (fun c => ?_)
  · have k := k.1 c
    refine Ex.seg hq 1 (j := 16) (L' := [.ref 8, .int p0]) (S' := [.int (-1 : Int32)]) (h' := hpS s) rfl ?_
    exact Ex.rt hq rfl rfl ⟨(-1 : Int32), s, rfl, rfl, k⟩
  · have k := k.2 c
    refine Ex.seg hq 2 (j := 4) (L' := [.ref 8, .int p0]) (S' := [.int (150 : Int32), .int p0]) (h' := hpS s) rfl ?_
    refine Ex.i2 hq rfl (fun c => ?_) (fun c => ?_)
    · have k := k.1 c
      refine Ex.seg hq 1 (j := 16) (L' := [.ref 8, .int p0]) (S' := [.int (-1 : Int32)]) (h' := hpS s) rfl ?_
      exact Ex.rt hq rfl rfl ⟨(-1 : Int32), s, rfl, rfl, k⟩
    · have k := k.2 c
      refine Ex.seg hq 3 (j := 8) (L' := [.ref 8, .int p0]) (S' := [.int p0, .ref 9]) (h' := hpS s) rfl ?_
      obtain ⟨hin, k⟩ := k
      refine Ex.ial hq rfl rfl hin ?_
      refine Ex.i1 hq rfl (fun c => ?_) (fun c => ?_)
      · have k := k.1 c
        refine Ex.seg hq 1 (j := 16) (L' := [.ref 8, .int p0]) (S' := [.int (-1 : Int32)]) (h' := hpS s) rfl ?_
        exact Ex.rt hq rfl rfl ⟨(-1 : Int32), s, rfl, rfl, k⟩
      · have k := k.2 c
        refine Ex.seg hq 3 (j := 13) (L' := [.ref 8, .int p0]) (S' := [.int p0, .ref 10]) (h' := hpS s) rfl ?_
        obtain ⟨hin, k⟩ := k
        refine Ex.ial hq rfl rfl hin ?_
        refine Ex.seg hq 1 (j := 16) (L' := [.ref 8, .int p0]) (S' := [.int ((s.2.1 10) (p0).toNatClampNeg)]) (h' := hpS s) rfl ?_
        exact Ex.rt hq rfl rfl ⟨((s.2.1 10) (p0).toNatClampNeg), s, rfl, rfl, k⟩
/-- RowAuditor$View.crowdOf(I)I -/
def w_121 (p0 : Int32) (s : ST) (K : Int32 → ST → Prop) : Prop := ((p0 < 0 → K (0 : Int32) s) ∧ (¬ (p0 < 0) → (((150 : Int32) ≤ p0 → K (0 : Int32) s) ∧ (¬ ((150 : Int32) ≤ p0) → (pin p0 150 = true ∧ K ((s.2.1 12) (p0).toNatClampNeg) s)))))
theorem q_121 {d : Nat} {K : Int32 → ST → Prop} (p0 : Int32) (s : ST) (k : w_121 p0 s K) : Rn sc (d + 0) 121 [.ref 8, .int p0] (hpS s) (kI K) := by
  have hq : prog[121]? = some pm121 := rfl
  refine Rn.of (L := [.ref 8, .int p0]) hq rfl rfl ?_
  unfold w_121 at k
  refine Ex.seg hq 1 (j := 1) (L' := [.ref 8, .int p0]) (S' := [.int p0]) (h' := hpS s) rfl ?_
  refine Ex.i1 hq rfl (fun c => ?_) (fun c => ?_)
  · have k := k.1 c
    refine Ex.seg hq 1 (j := 11) (L' := [.ref 8, .int p0]) (S' := [.int (0 : Int32)]) (h' := hpS s) rfl ?_
    exact Ex.rt hq rfl rfl ⟨(0 : Int32), s, rfl, rfl, k⟩
  · have k := k.2 c
    refine Ex.seg hq 2 (j := 4) (L' := [.ref 8, .int p0]) (S' := [.int (150 : Int32), .int p0]) (h' := hpS s) rfl ?_
    refine Ex.i2 hq rfl (fun c => ?_) (fun c => ?_)
    · have k := k.1 c
      refine Ex.seg hq 1 (j := 11) (L' := [.ref 8, .int p0]) (S' := [.int (0 : Int32)]) (h' := hpS s) rfl ?_
      exact Ex.rt hq rfl rfl ⟨(0 : Int32), s, rfl, rfl, k⟩
    · have k := k.2 c
      refine Ex.seg hq 3 (j := 8) (L' := [.ref 8, .int p0]) (S' := [.int p0, .ref 12]) (h' := hpS s) rfl ?_
      obtain ⟨hin, k⟩ := k
      refine Ex.ial hq rfl rfl hin ?_
      refine Ex.seg hq 1 (j := 11) (L' := [.ref 8, .int p0]) (S' := [.int ((s.2.1 12) (p0).toNatClampNeg)]) (h' := hpS s) rfl ?_
      exact Ex.rt hq rfl rfl ⟨((s.2.1 12) (p0).toNatClampNeg), s, rfl, rfl, k⟩
/-- RowAuditor$View.turnoverOf(I)I -/
def w_122 (p0 : Int32) (s : ST) (K : Int32 → ST → Prop) : Prop := ((p0 < 0 → K (0 : Int32) s) ∧ (¬ (p0 < 0) → (((150 : Int32) ≤ p0 → K (0 : Int32) s) ∧ (¬ ((150 : Int32) ≤ p0) → (pin p0 150 = true ∧ K ((s.2.1 13) (p0).toNatClampNeg) s)))))
theorem q_122 {d : Nat} {K : Int32 → ST → Prop} (p0 : Int32) (s : ST) (k : w_122 p0 s K) : Rn sc (d + 0) 122 [.ref 8, .int p0] (hpS s) (kI K) := by
  have hq : prog[122]? = some pm122 := rfl
  refine Rn.of (L := [.ref 8, .int p0]) hq rfl rfl ?_
  unfold w_122 at k
  refine Ex.seg hq 1 (j := 1) (L' := [.ref 8, .int p0]) (S' := [.int p0]) (h' := hpS s) rfl ?_
  refine Ex.i1 hq rfl (fun c => ?_) (fun c => ?_)
  · have k := k.1 c
    refine Ex.seg hq 1 (j := 11) (L' := [.ref 8, .int p0]) (S' := [.int (0 : Int32)]) (h' := hpS s) rfl ?_
    exact Ex.rt hq rfl rfl ⟨(0 : Int32), s, rfl, rfl, k⟩
  · have k := k.2 c
    refine Ex.seg hq 2 (j := 4) (L' := [.ref 8, .int p0]) (S' := [.int (150 : Int32), .int p0]) (h' := hpS s) rfl ?_
    refine Ex.i2 hq rfl (fun c => ?_) (fun c => ?_)
    · have k := k.1 c
      refine Ex.seg hq 1 (j := 11) (L' := [.ref 8, .int p0]) (S' := [.int (0 : Int32)]) (h' := hpS s) rfl ?_
      exact Ex.rt hq rfl rfl ⟨(0 : Int32), s, rfl, rfl, k⟩
    · have k := k.2 c
      refine Ex.seg hq 3 (j := 8) (L' := [.ref 8, .int p0]) (S' := [.int p0, .ref 13]) (h' := hpS s) rfl ?_
      obtain ⟨hin, k⟩ := k
      refine Ex.ial hq rfl rfl hin ?_
      refine Ex.seg hq 1 (j := 11) (L' := [.ref 8, .int p0]) (S' := [.int ((s.2.1 13) (p0).toNatClampNeg)]) (h' := hpS s) rfl ?_
      exact Ex.rt hq rfl rfl ⟨((s.2.1 13) (p0).toNatClampNeg), s, rfl, rfl, k⟩
/-- RowAuditor$View.rowAt(I)I -/
def w_123 (p0 : Int32) (s : ST) (K : Int32 → ST → Prop) : Prop := ((p0 < 0 → K (-1 : Int32) s) ∧ (¬ (p0 < 0) → (((s.1 801) ≤ p0 → K (-1 : Int32) s) ∧ (¬ ((s.1 801) ≤ p0) → (pin p0 150 = true ∧ K ((s.2.1 11) (p0).toNatClampNeg) s)))))
theorem q_123 {d : Nat} {K : Int32 → ST → Prop} (p0 : Int32) (s : ST) (k : w_123 p0 s K) : Rn sc (d + 0) 123 [.ref 8, .int p0] (hpS s) (kI K) := by
  have hq : prog[123]? = some pm123 := rfl
  refine Rn.of (L := [.ref 8, .int p0]) hq rfl rfl ?_
  unfold w_123 at k
  refine Ex.seg hq 1 (j := 1) (L' := [.ref 8, .int p0]) (S' := [.int p0]) (h' := hpS s) rfl ?_
  refine Ex.i1 hq rfl (fun c => ?_) (fun c => ?_)
  · have k := k.1 c
    refine Ex.seg hq 1 (j := 12) (L' := [.ref 8, .int p0]) (S' := [.int (-1 : Int32)]) (h' := hpS s) rfl ?_
    exact Ex.rt hq rfl rfl ⟨(-1 : Int32), s, rfl, rfl, k⟩
  · have k := k.2 c
    refine Ex.seg hq 3 (j := 5) (L' := [.ref 8, .int p0]) (S' := [.int (s.1 801), .int p0]) (h' := hpS s) rfl ?_
    refine Ex.i2 hq rfl (fun c => ?_) (fun c => ?_)
    · have k := k.1 c
      refine Ex.seg hq 1 (j := 12) (L' := [.ref 8, .int p0]) (S' := [.int (-1 : Int32)]) (h' := hpS s) rfl ?_
      exact Ex.rt hq rfl rfl ⟨(-1 : Int32), s, rfl, rfl, k⟩
    · have k := k.2 c
      refine Ex.seg hq 3 (j := 9) (L' := [.ref 8, .int p0]) (S' := [.int p0, .ref 11]) (h' := hpS s) rfl ?_
      obtain ⟨hin, k⟩ := k
      refine Ex.ial hq rfl rfl hin ?_
      refine Ex.seg hq 1 (j := 12) (L' := [.ref 8, .int p0]) (S' := [.int ((s.2.1 11) (p0).toNatClampNeg)]) (h' := hpS s) rfl ?_
      exact Ex.rt hq rfl rfl ⟨((s.2.1 11) (p0).toNatClampNeg), s, rfl, rfl, k⟩
def w_124_4 : Nat → Int32 → Int32 → ST → (Int32 → ST → Prop) → (Int32 → ST → Prop) → Prop
  | 0, _, _, _, _, _ => False
  | n + 1, x1, x2, s, X18, K => (((s.1 801) ≤ x2 → X18 x1 s) ∧ (¬ ((s.1 801) ≤ x2) → w_123 x2 s (fun r2 s1 => w_119 r2 s1 (fun r4 s3 => w_124_4 n (x1 + r4) (x2 + (1 : Int32)) s3 X18 K))))
theorem q_124_4 {d : Nat} {X18 : Int32 → ST → Prop} {K : Int32 → ST → Prop} : ∀ (n : Nat) (x1 : Int32) (x2 : Int32) (s : ST), w_124_4 n x1 x2 s X18 K → (∀ (y1 : Int32) (s : ST), X18 y1 s → Ex sc (d + 1) 124 18 [pu, .int y1, pu] [] (hpS s) (kI K)) → Ex sc (d + 1) 124 4 [.ref 8, .int x1, .int x2] [] (hpS s) (kI K) := by
  have hq : prog[124]? = some pm124 := rfl
  intro n
  induction n with
  | zero =>
    intro x1 x2 s k
    exact k.elim
  | succ n ih =>
    intro x1 x2 s k hX18
    rw [w_124_4] at k
    refine Ex.seg hq 3 (j := 7) (L' := [.ref 8, .int x1, .int x2]) (S' := [.int (s.1 801), .int x2]) (h' := hpS s) rfl ?_
    refine Ex.i2 hq rfl (fun c => ?_) (fun c => ?_)
    · have k := k.1 c
      refine Ex.fg (L := [pu, .int x1, pu]) ⟨Or.inr ⟨rfl, rfl⟩, ⟨Or.inl rfl, ⟨Or.inr ⟨rfl, rfl⟩, trivial⟩⟩⟩ ?_
      exact hX18 x1 s k
    · have k := k.2 c
      refine Ex.seg hq 4 (j := 12) (L' := [.ref 8, .int x1, .int x2]) (S' := [.int x2, .ref 8, .ref 8, .int x1]) (h' := hpS s) rfl ?_
      refine Ex.cl hq rfl rfl ?_
      refine Rn.mono (q_123 (d := d + 0) x2 s k) ?_
      rintro _ _ ⟨r2, s1, rfl, rfl, k⟩
      show Ex sc (d + 1) 124 13 [.ref 8, .int x1, .int x2] [.int r2, .ref 8, .int x1] (hpS s1) _
      refine Ex.cl hq rfl rfl ?_
      refine Rn.mono (q_119 (d := d + 0) r2 s1 k) ?_
      rintro _ _ ⟨r4, s3, rfl, rfl, k⟩
      show Ex sc (d + 1) 124 14 [.ref 8, .int x1, .int x2] [.int r4, .int x1] (hpS s3) _
      refine Ex.seg hq 4 (j := 4) (L' := [.ref 8, .int (x1 + r4), .int (x2 + (1 : Int32))]) (S' := []) (h' := hpS s3) rfl ?_
      exact ih (x1 + r4) (x2 + (1 : Int32)) s3 k hX18
/-- RowAuditor$View.total()I -/
def w_124  (s : ST) (K : Int32 → ST → Prop) : Prop := (∃ m, w_124_4 m (0 : Int32) (0 : Int32) s (fun y1 s5 => K y1 s5) K)
theorem q_124 {d : Nat} {K : Int32 → ST → Prop}  (s : ST) (k : w_124  s K) : Rn sc (d + 1) 124 [.ref 8] (hpS s) (kI K) := by
  have hq : prog[124]? = some pm124 := rfl
  refine Rn.of (L := [.ref 8, pu, pu]) hq rfl rfl ?_
  unfold w_124 at k
  refine Ex.seg hq 4 (j := 4) (L' := [.ref 8, .int (0 : Int32), .int (0 : Int32)]) (S' := []) (h' := hpS s) rfl ?_
  obtain ⟨m, k⟩ := k
  refine q_124_4 (d := d) m (0 : Int32) (0 : Int32) s k ?_
  · intro y1 s5 k
    refine Ex.seg hq 1 (j := 19) (L' := [pu, .int y1, pu]) (S' := [.int y1]) (h' := hpS s5) rfl ?_
    exact Ex.rt hq rfl rfl ⟨y1, s5, rfl, rfl, k⟩
def w_125_4 : Nat → Int64 → Int64 → Int32 → ST → (Int64 → Int64 → ST → Prop) → (Int64 → Int64 → Int32 → ST → Prop) → (Int32 → ST → Prop) → Prop
  | 0, _, _, _, _, _, _, _ => False
  | n + 1, x1, x3, x5, s, X27, X21, K => (((s.1 801) ≤ x5 → X27 x1 x3 s) ∧ (¬ ((s.1 801) ≤ x5) → w_123 x5 s (fun r2 s1 => w_119 r2 s1 (fun r4 s3 => ((0 ≤ (lg_cmp x1 (x3 + ((r4).toInt64))) → w_125_4 n x1 (x3 + ((r4).toInt64)) (x5 + (1 : Int32)) s3 X27 X21 K) ∧ (¬ (0 ≤ (lg_cmp x1 (x3 + ((r4).toInt64)))) → X21 x1 (x3 + ((r4).toInt64)) x5 s3))))))
theorem q_125_4 {d : Nat} {X27 : Int64 → Int64 → ST → Prop} {X21 : Int64 → Int64 → Int32 → ST → Prop} {K : Int32 → ST → Prop} : ∀ (n : Nat) (x1 : Int64) (x3 : Int64) (x5 : Int32) (s : ST), w_125_4 n x1 x3 x5 s X27 X21 K → (∀ (y1 : Int64) (y3 : Int64) (s : ST), X27 y1 y3 s → Ex sc (d + 1) 125 27 [pu, .long y1, pu, .long y3, pu, pu] [] (hpS s) (kI K)) → (∀ (y1 : Int64) (y3 : Int64) (y5 : Int32) (s : ST), X21 y1 y3 y5 s → Ex sc (d + 1) 125 21 [.ref 8, .long y1, pu, .long y3, pu, .int y5] [] (hpS s) (kI K)) → Ex sc (d + 1) 125 4 [.ref 8, .long x1, pu, .long x3, pu, .int x5] [] (hpS s) (kI K) := by
  have hq : prog[125]? = some pm125 := rfl
  intro n
  induction n with
  | zero =>
    intro x1 x3 x5 s k
    exact k.elim
  | succ n ih =>
    intro x1 x3 x5 s k hX27 hX21
    rw [w_125_4] at k
    refine Ex.seg hq 3 (j := 7) (L' := [.ref 8, .long x1, pu, .long x3, pu, .int x5]) (S' := [.int (s.1 801), .int x5]) (h' := hpS s) rfl ?_
    refine Ex.i2 hq rfl (fun c => ?_) (fun c => ?_)
    · have k := k.1 c
      refine Ex.fg (L := [pu, .long x1, pu, .long x3, pu, pu]) ⟨Or.inr ⟨rfl, rfl⟩, ⟨Or.inl rfl, ⟨Or.inl rfl, ⟨Or.inl rfl, ⟨Or.inl rfl, ⟨Or.inr ⟨rfl, rfl⟩, trivial⟩⟩⟩⟩⟩⟩ ?_
      exact hX27 x1 x3 s k
    · have k := k.2 c
      refine Ex.seg hq 4 (j := 12) (L' := [.ref 8, .long x1, pu, .long x3, pu, .int x5]) (S' := [.int x5, .ref 8, .ref 8, .long x3]) (h' := hpS s) rfl ?_
      refine Ex.cl hq rfl rfl ?_
      refine Rn.mono (q_123 (d := d + 0) x5 s k) ?_
      rintro _ _ ⟨r2, s1, rfl, rfl, k⟩
      show Ex sc (d + 1) 125 13 [.ref 8, .long x1, pu, .long x3, pu, .int x5] [.int r2, .ref 8, .long x3] (hpS s1) _
      refine Ex.cl hq rfl rfl ?_
      refine Rn.mono (q_119 (d := d + 0) r2 s1 k) ?_
      rintro _ _ ⟨r4, s3, rfl, rfl, k⟩
      show Ex sc (d + 1) 125 14 [.ref 8, .long x1, pu, .long x3, pu, .int x5] [.int r4, .long x3] (hpS s3) _
      refine Ex.seg hq 6 (j := 20) (L' := [.ref 8, .long x1, pu, .long (x3 + ((r4).toInt64)), pu, .int x5]) (S' := [.int (lg_cmp x1 (x3 + ((r4).toInt64)))]) (h' := hpS s3) rfl ?_
      refine Ex.i1 hq rfl (fun c => ?_) (fun c => ?_)
      · have k := k.1 c
        refine Ex.seg hq 2 (j := 4) (L' := [.ref 8, .long x1, pu, .long (x3 + ((r4).toInt64)), pu, .int (x5 + (1 : Int32))]) (S' := []) (h' := hpS s3) rfl ?_
        exact ih x1 (x3 + ((r4).toInt64)) (x5 + (1 : Int32)) s3 k hX27 hX21
      · have k := k.2 c
        exact hX21 x1 (x3 + ((r4).toInt64)) x5 s3 k
/-- RowAuditor$View.rowAtCoin(J)I -/
def w_125 (p0 : Int64) (s : ST) (K : Int32 → ST → Prop) : Prop := (∃ m, w_125_4 m p0 (0 : Int64) (0 : Int32) s (fun y1 y3 s5 => K (-1 : Int32) s5) (fun y1 y3 y5 s6 => w_123 y5 s6 (fun r8 s7 => K r8 s7)) K)
theorem q_125 {d : Nat} {K : Int32 → ST → Prop} (p0 : Int64) (s : ST) (k : w_125 p0 s K) : Rn sc (d + 1) 125 [.ref 8, .long p0] (hpS s) (kI K) := by
  have hq : prog[125]? = some pm125 := rfl
  refine Rn.of (L := [.ref 8, .long p0, pu, pu, pu, pu]) hq rfl rfl ?_
  unfold w_125 at k
  refine Ex.seg hq 4 (j := 4) (L' := [.ref 8, .long p0, pu, .long (0 : Int64), pu, .int (0 : Int32)]) (S' := []) (h' := hpS s) rfl ?_
  obtain ⟨m, k⟩ := k
  refine q_125_4 (d := d) m p0 (0 : Int64) (0 : Int32) s k ?_ ?_
  · intro y1 y3 s5 k
    refine Ex.seg hq 1 (j := 28) (L' := [pu, .long y1, pu, .long y3, pu, pu]) (S' := [.int (-1 : Int32)]) (h' := hpS s5) rfl ?_
    exact Ex.rt hq rfl rfl ⟨(-1 : Int32), s5, rfl, rfl, k⟩
  · intro y1 y3 y5 s6 k
    refine Ex.seg hq 2 (j := 23) (L' := [.ref 8, .long y1, pu, .long y3, pu, .int y5]) (S' := [.int y5, .ref 8]) (h' := hpS s6) rfl ?_
    refine Ex.cl hq rfl rfl ?_
    refine Rn.mono (q_123 (d := d + 0) y5 s6 k) ?_
    rintro _ _ ⟨r8, s7, rfl, rfl, k⟩
    show Ex sc (d + 1) 125 24 [.ref 8, .long y1, pu, .long y3, pu, .int y5] [.int r8] (hpS s7) _
    exact Ex.rt hq rfl rfl ⟨r8, s7, rfl, rfl, k⟩
def w_135_2 : Nat → Int32 → Int32 → ST → (ST → Prop) → (ST → Prop) → Prop
  | 0, _, _, _, _, _ => False
  | n + 1, x1, x2, s, X26, K => ((x2 < 0 → X26  s) ∧ (¬ (x2 < 0) → (((200 : Int32) ≤ (s.1 7) → X26  s) ∧ (¬ ((200 : Int32) ≤ (s.1 7)) → (pin (s.1 7) 200 = true ∧ w_135_2 n x1 (x2 + (-8 : Int32)) (sA (sI s 7 ((s.1 7) + (1 : Int32))) 27 (upd (s.2.1 27) ((s.1 7)).toNatClampNeg ((((x1).toUInt32 >>> ((x2).toUInt32 &&& Int32.toUInt32 31)).toInt32) &&& (255 : Int32)))) X26 K)))))
theorem q_135_2 {d : Nat} {X26 : ST → Prop} {K : ST → Prop} : ∀ (n : Nat) (x1 : Int32) (x2 : Int32) (s : ST), w_135_2 n x1 x2 s X26 K → (∀ (s : ST), X26  s → Ex sc (d + 0) 135 26 [pu, pu, pu] [] (hpS s) (kV K)) → Ex sc (d + 0) 135 2 [.ref 0, .int x1, .int x2] [] (hpS s) (kV K) := by
  have hq : prog[135]? = some pm135 := rfl
  intro n
  induction n with
  | zero =>
    intro x1 x2 s k
    exact k.elim
  | succ n ih =>
    intro x1 x2 s k hX26
    rw [w_135_2] at k
    refine Ex.seg hq 1 (j := 3) (L' := [.ref 0, .int x1, .int x2]) (S' := [.int x2]) (h' := hpS s) rfl ?_
    refine Ex.i1 hq rfl (fun c => ?_) (fun c => ?_)
    · have k := k.1 c
      refine Ex.fg (L := [pu, pu, pu]) ⟨Or.inr ⟨rfl, rfl⟩, ⟨Or.inr ⟨rfl, rfl⟩, ⟨Or.inr ⟨rfl, rfl⟩, trivial⟩⟩⟩ ?_
      exact hX26  s k
    · have k := k.2 c
      refine Ex.seg hq 3 (j := 7) (L' := [.ref 0, .int x1, .int x2]) (S' := [.int (200 : Int32), .int (s.1 7)]) (h' := hpS s) rfl ?_
      refine Ex.i2 hq rfl (fun c => ?_) (fun c => ?_)
      · have k := k.1 c
        refine Ex.fg (L := [pu, pu, pu]) ⟨Or.inr ⟨rfl, rfl⟩, ⟨Or.inr ⟨rfl, rfl⟩, ⟨Or.inr ⟨rfl, rfl⟩, trivial⟩⟩⟩ ?_
        exact hX26  s k
      · have k := k.2 c
        refine Ex.seg hq 9 (j := 17) (L' := [.ref 0, .int x1, .int x2]) (S' := [.int ((((x1).toUInt32 >>> ((x2).toUInt32 &&& Int32.toUInt32 31)).toInt32) &&& (255 : Int32)), .int (s.1 7), .ref 27]) (h' := hpS s) rfl ?_
        obtain ⟨hin, k⟩ := k
        refine Ex.ias hq rfl rfl hin (h' := hpS (sA s 27 (upd (s.2.1 27) ((s.1 7)).toNatClampNeg ((((x1).toUInt32 >>> ((x2).toUInt32 &&& Int32.toUInt32 31)).toInt32) &&& (255 : Int32))))) (hset_27 _ _) ?_
        refine Ex.seg hq 8 (j := 2) (L' := [.ref 0, .int x1, .int (x2 + (-8 : Int32))]) (S' := []) (h' := hpS (sA (sI s 7 ((s.1 7) + (1 : Int32))) 27 (upd (s.2.1 27) ((s.1 7)).toNatClampNeg ((((x1).toUInt32 >>> ((x2).toUInt32 &&& Int32.toUInt32 31)).toInt32) &&& (255 : Int32))))) rfl ?_
        exact ih x1 (x2 + (-8 : Int32)) (sA (sI s 7 ((s.1 7) + (1 : Int32))) 27 (upd (s.2.1 27) ((s.1 7)).toNatClampNeg ((((x1).toUInt32 >>> ((x2).toUInt32 &&& Int32.toUInt32 31)).toInt32) &&& (255 : Int32)))) k hX26
/-- RowAuditor.append(I)V -/
def w_135 (p0 : Int32) (s : ST) (K : ST → Prop) : Prop := (∃ m, w_135_2 m p0 (24 : Int32) s (fun s1 => K s1) K)
theorem q_135 {d : Nat} {K : ST → Prop} (p0 : Int32) (s : ST) (k : w_135 p0 s K) : Rn sc (d + 0) 135 [.ref 0, .int p0] (hpS s) (kV K) := by
  have hq : prog[135]? = some pm135 := rfl
  refine Rn.of (L := [.ref 0, .int p0, pu]) hq rfl rfl ?_
  unfold w_135 at k
  refine Ex.seg hq 2 (j := 2) (L' := [.ref 0, .int p0, .int (24 : Int32)]) (S' := []) (h' := hpS s) rfl ?_
  obtain ⟨m, k⟩ := k
  refine q_135_2 (d := d) m p0 (24 : Int32) s k ?_
  · intro s1 k
    exact Ex.rt hq rfl rfl ⟨s1, rfl, rfl, k⟩
def w_144_2 : Nat → Int32 → Int32 → ST → (ST → Prop) → (ST → Prop) → (Int32 → ST → Prop) → Prop
  | 0, _, _, _, _, _, _ => False
  | n + 1, x1, x2, s, X21, X17, K => ((x1 ≤ x2 → X21  s) ∧ (¬ (x1 ≤ x2) → (((200 : Int32) ≤ x1 → X21  s) ∧ (¬ ((200 : Int32) ≤ x1) → (pin x2 200 = true ∧ (pin x1 200 = true ∧ ((¬ ((s.2.1 27) (x2).toNatClampNeg) = ((s.2.1 27) (x1).toNatClampNeg) → w_144_2 n x1 (x2 + (1 : Int32)) s X21 X17 K) ∧ (¬ (¬ ((s.2.1 27) (x2).toNatClampNeg) = ((s.2.1 27) (x1).toNatClampNeg)) → X17  s))))))))
theorem q_144_2 {d : Nat} {X21 : ST → Prop} {X17 : ST → Prop} {K : Int32 → ST → Prop} : ∀ (n : Nat) (x1 : Int32) (x2 : Int32) (s : ST), w_144_2 n x1 x2 s X21 X17 K → (∀ (s : ST), X21  s → Ex sc (d + 0) 144 21 [pu, pu, pu] [] (hpS s) (kZ K)) → (∀ (s : ST), X17  s → Ex sc (d + 0) 144 17 [pu, pu, pu] [] (hpS s) (kZ K)) → Ex sc (d + 0) 144 2 [.ref 0, .int x1, .int x2] [] (hpS s) (kZ K) := by
  have hq : prog[144]? = some pm144 := rfl
  intro n
  induction n with
  | zero =>
    intro x1 x2 s k
    exact k.elim
  | succ n ih =>
    intro x1 x2 s k hX21 hX17
    rw [w_144_2] at k
    refine Ex.seg hq 2 (j := 4) (L' := [.ref 0, .int x1, .int x2]) (S' := [.int x1, .int x2]) (h' := hpS s) rfl ?_
    refine Ex.i2 hq rfl (fun c => ?_) (fun c => ?_)
    · have k := k.1 c
      refine Ex.fg (L := [pu, pu, pu]) ⟨Or.inr ⟨rfl, rfl⟩, ⟨Or.inr ⟨rfl, rfl⟩, ⟨Or.inr ⟨rfl, rfl⟩, trivial⟩⟩⟩ ?_
      exact hX21  s k
    · have k := k.2 c
      refine Ex.seg hq 2 (j := 7) (L' := [.ref 0, .int x1, .int x2]) (S' := [.int (200 : Int32), .int x1]) (h' := hpS s) rfl ?_
      refine Ex.i2 hq rfl (fun c => ?_) (fun c => ?_)
      · have k := k.1 c
        refine Ex.fg (L := [pu, pu, pu]) ⟨Or.inr ⟨rfl, rfl⟩, ⟨Or.inr ⟨rfl, rfl⟩, ⟨Or.inr ⟨rfl, rfl⟩, trivial⟩⟩⟩ ?_
        exact hX21  s k
      · have k := k.2 c
        refine Ex.seg hq 3 (j := 11) (L' := [.ref 0, .int x1, .int x2]) (S' := [.int x2, .ref 27]) (h' := hpS s) rfl ?_
        obtain ⟨hin, k⟩ := k
        refine Ex.ial hq rfl rfl hin ?_
        refine Ex.seg hq 3 (j := 15) (L' := [.ref 0, .int x1, .int x2]) (S' := [.int x1, .ref 27, .int ((s.2.1 27) (x2).toNatClampNeg)]) (h' := hpS s) rfl ?_
        obtain ⟨hin, k⟩ := k
        refine Ex.ial hq rfl rfl hin ?_
        refine Ex.i2 hq rfl (fun c => ?_) (fun c => ?_)
        · have k := k.1 c
          refine Ex.seg hq 2 (j := 2) (L' := [.ref 0, .int x1, .int (x2 + (1 : Int32))]) (S' := []) (h' := hpS s) rfl ?_
          exact ih x1 (x2 + (1 : Int32)) s k hX21 hX17
        · have k := k.2 c
          refine Ex.fg (L := [pu, pu, pu]) ⟨Or.inr ⟨rfl, rfl⟩, ⟨Or.inr ⟨rfl, rfl⟩, ⟨Or.inr ⟨rfl, rfl⟩, trivial⟩⟩⟩ ?_
          exact hX17  s k
/-- RowAuditor.isTapedBefore(I)Z -/
def w_144 (p0 : Int32) (s : ST) (K : Int32 → ST → Prop) : Prop := (∃ m, w_144_2 m p0 (0 : Int32) s (fun s1 => K (0 : Int32) s1) (fun s2 => K (1 : Int32) s2) K)
theorem q_144 {d : Nat} {K : Int32 → ST → Prop} (p0 : Int32) (s : ST) (k : w_144 p0 s K) : Rn sc (d + 0) 144 [.ref 0, .int p0] (hpS s) (kZ K) := by
  have hq : prog[144]? = some pm144 := rfl
  refine Rn.of (L := [.ref 0, .int p0, pu]) hq rfl rfl ?_
  unfold w_144 at k
  refine Ex.seg hq 2 (j := 2) (L' := [.ref 0, .int p0, .int (0 : Int32)]) (S' := []) (h' := hpS s) rfl ?_
  obtain ⟨m, k⟩ := k
  refine q_144_2 (d := d) m p0 (0 : Int32) s k ?_ ?_
  · intro s1 k
    refine Ex.seg hq 1 (j := 22) (L' := [pu, pu, pu]) (S' := [.int (0 : Int32)]) (h' := hpS s1) rfl ?_
    exact Ex.zr hq rfl rfl (Or.inl rfl) ⟨(0 : Int32), s1, rfl, (Or.inl rfl), rfl, k⟩
  · intro s2 k
    refine Ex.seg hq 1 (j := 18) (L' := [pu, pu, pu]) (S' := [.int (1 : Int32)]) (h' := hpS s2) rfl ?_
    exact Ex.zr hq rfl rfl (Or.inr rfl) ⟨(1 : Int32), s2, rfl, (Or.inr rfl), rfl, k⟩
/-- RowAuditor.dealOne(ZZ)V -/
def w_156 (p0 : Int32) (p1 : Int32) (s : ST) (K : ST → Prop) : Prop := (pin (2 : Int32) 4 = true ∧ (pin (2 : Int32) 4 = true ∧ (pin (0 : Int32) 4 = true ∧ ((p0 = 0 → (pin (0 : Int32) 4 = true ∧ (pin (3 : Int32) 4 = true ∧ ((p1 = 0 → (pin (3 : Int32) 4 = true ∧ (pin (1 : Int32) 4 = true ∧ ((p0 = 0 → (pin (1 : Int32) 4 = true ∧ K (sA s 34 (upd (upd (upd (upd (s.2.1 34) ((2 : Int32)).toNatClampNeg (((s.2.1 34) ((2 : Int32)).toNatClampNeg) + (1 : Int32))) ((0 : Int32)).toNatClampNeg (((upd (s.2.1 34) ((2 : Int32)).toNatClampNeg (((s.2.1 34) ((2 : Int32)).toNatClampNeg) + (1 : Int32))) ((0 : Int32)).toNatClampNeg) + (0 : Int32))) ((3 : Int32)).toNatClampNeg (((upd (upd (s.2.1 34) ((2 : Int32)).toNatClampNeg (((s.2.1 34) ((2 : Int32)).toNatClampNeg) + (1 : Int32))) ((0 : Int32)).toNatClampNeg (((upd (s.2.1 34) ((2 : Int32)).toNatClampNeg (((s.2.1 34) ((2 : Int32)).toNatClampNeg) + (1 : Int32))) ((0 : Int32)).toNatClampNeg) + (0 : Int32))) ((3 : Int32)).toNatClampNeg) + (0 : Int32))) ((1 : Int32)).toNatClampNeg (((upd (upd (upd (s.2.1 34) ((2 : Int32)).toNatClampNeg (((s.2.1 34) ((2 : Int32)).toNatClampNeg) + (1 : Int32))) ((0 : Int32)).toNatClampNeg (((upd (s.2.1 34) ((2 : Int32)).toNatClampNeg (((s.2.1 34) ((2 : Int32)).toNatClampNeg) + (1 : Int32))) ((0 : Int32)).toNatClampNeg) + (0 : Int32))) ((3 : Int32)).toNatClampNeg (((upd (upd (s.2.1 34) ((2 : Int32)).toNatClampNeg (((s.2.1 34) ((2 : Int32)).toNatClampNeg) + (1 : Int32))) ((0 : Int32)).toNatClampNeg (((upd (s.2.1 34) ((2 : Int32)).toNatClampNeg (((s.2.1 34) ((2 : Int32)).toNatClampNeg) + (1 : Int32))) ((0 : Int32)).toNatClampNeg) + (0 : Int32))) ((3 : Int32)).toNatClampNeg) + (0 : Int32))) ((1 : Int32)).toNatClampNeg) + (0 : Int32)))))) ∧ (¬ (p0 = 0) → ((p1 = 0 → (pin (1 : Int32) 4 = true ∧ K (sA s 34 (upd (upd (upd (upd (s.2.1 34) ((2 : Int32)).toNatClampNeg (((s.2.1 34) ((2 : Int32)).toNatClampNeg) + (1 : Int32))) ((0 : Int32)).toNatClampNeg (((upd (s.2.1 34) ((2 : Int32)).toNatClampNeg (((s.2.1 34) ((2 : Int32)).toNatClampNeg) + (1 : Int32))) ((0 : Int32)).toNatClampNeg) + (0 : Int32))) ((3 : Int32)).toNatClampNeg (((upd (upd (s.2.1 34) ((2 : Int32)).toNatClampNeg (((s.2.1 34) ((2 : Int32)).toNatClampNeg) + (1 : Int32))) ((0 : Int32)).toNatClampNeg (((upd (s.2.1 34) ((2 : Int32)).toNatClampNeg (((s.2.1 34) ((2 : Int32)).toNatClampNeg) + (1 : Int32))) ((0 : Int32)).toNatClampNeg) + (0 : Int32))) ((3 : Int32)).toNatClampNeg) + (0 : Int32))) ((1 : Int32)).toNatClampNeg (((upd (upd (upd (s.2.1 34) ((2 : Int32)).toNatClampNeg (((s.2.1 34) ((2 : Int32)).toNatClampNeg) + (1 : Int32))) ((0 : Int32)).toNatClampNeg (((upd (s.2.1 34) ((2 : Int32)).toNatClampNeg (((s.2.1 34) ((2 : Int32)).toNatClampNeg) + (1 : Int32))) ((0 : Int32)).toNatClampNeg) + (0 : Int32))) ((3 : Int32)).toNatClampNeg (((upd (upd (s.2.1 34) ((2 : Int32)).toNatClampNeg (((s.2.1 34) ((2 : Int32)).toNatClampNeg) + (1 : Int32))) ((0 : Int32)).toNatClampNeg (((upd (s.2.1 34) ((2 : Int32)).toNatClampNeg (((s.2.1 34) ((2 : Int32)).toNatClampNeg) + (1 : Int32))) ((0 : Int32)).toNatClampNeg) + (0 : Int32))) ((3 : Int32)).toNatClampNeg) + (0 : Int32))) ((1 : Int32)).toNatClampNeg) + (0 : Int32)))))) ∧ (¬ (p1 = 0) → (pin (1 : Int32) 4 = true ∧ K (sA s 34 (upd (upd (upd (upd (s.2.1 34) ((2 : Int32)).toNatClampNeg (((s.2.1 34) ((2 : Int32)).toNatClampNeg) + (1 : Int32))) ((0 : Int32)).toNatClampNeg (((upd (s.2.1 34) ((2 : Int32)).toNatClampNeg (((s.2.1 34) ((2 : Int32)).toNatClampNeg) + (1 : Int32))) ((0 : Int32)).toNatClampNeg) + (0 : Int32))) ((3 : Int32)).toNatClampNeg (((upd (upd (s.2.1 34) ((2 : Int32)).toNatClampNeg (((s.2.1 34) ((2 : Int32)).toNatClampNeg) + (1 : Int32))) ((0 : Int32)).toNatClampNeg (((upd (s.2.1 34) ((2 : Int32)).toNatClampNeg (((s.2.1 34) ((2 : Int32)).toNatClampNeg) + (1 : Int32))) ((0 : Int32)).toNatClampNeg) + (0 : Int32))) ((3 : Int32)).toNatClampNeg) + (0 : Int32))) ((1 : Int32)).toNatClampNeg (((upd (upd (upd (s.2.1 34) ((2 : Int32)).toNatClampNeg (((s.2.1 34) ((2 : Int32)).toNatClampNeg) + (1 : Int32))) ((0 : Int32)).toNatClampNeg (((upd (s.2.1 34) ((2 : Int32)).toNatClampNeg (((s.2.1 34) ((2 : Int32)).toNatClampNeg) + (1 : Int32))) ((0 : Int32)).toNatClampNeg) + (0 : Int32))) ((3 : Int32)).toNatClampNeg (((upd (upd (s.2.1 34) ((2 : Int32)).toNatClampNeg (((s.2.1 34) ((2 : Int32)).toNatClampNeg) + (1 : Int32))) ((0 : Int32)).toNatClampNeg (((upd (s.2.1 34) ((2 : Int32)).toNatClampNeg (((s.2.1 34) ((2 : Int32)).toNatClampNeg) + (1 : Int32))) ((0 : Int32)).toNatClampNeg) + (0 : Int32))) ((3 : Int32)).toNatClampNeg) + (0 : Int32))) ((1 : Int32)).toNatClampNeg) + (1 : Int32)))))))))))) ∧ (¬ (p1 = 0) → (pin (3 : Int32) 4 = true ∧ (pin (1 : Int32) 4 = true ∧ ((p0 = 0 → (pin (1 : Int32) 4 = true ∧ K (sA s 34 (upd (upd (upd (upd (s.2.1 34) ((2 : Int32)).toNatClampNeg (((s.2.1 34) ((2 : Int32)).toNatClampNeg) + (1 : Int32))) ((0 : Int32)).toNatClampNeg (((upd (s.2.1 34) ((2 : Int32)).toNatClampNeg (((s.2.1 34) ((2 : Int32)).toNatClampNeg) + (1 : Int32))) ((0 : Int32)).toNatClampNeg) + (0 : Int32))) ((3 : Int32)).toNatClampNeg (((upd (upd (s.2.1 34) ((2 : Int32)).toNatClampNeg (((s.2.1 34) ((2 : Int32)).toNatClampNeg) + (1 : Int32))) ((0 : Int32)).toNatClampNeg (((upd (s.2.1 34) ((2 : Int32)).toNatClampNeg (((s.2.1 34) ((2 : Int32)).toNatClampNeg) + (1 : Int32))) ((0 : Int32)).toNatClampNeg) + (0 : Int32))) ((3 : Int32)).toNatClampNeg) + (1 : Int32))) ((1 : Int32)).toNatClampNeg (((upd (upd (upd (s.2.1 34) ((2 : Int32)).toNatClampNeg (((s.2.1 34) ((2 : Int32)).toNatClampNeg) + (1 : Int32))) ((0 : Int32)).toNatClampNeg (((upd (s.2.1 34) ((2 : Int32)).toNatClampNeg (((s.2.1 34) ((2 : Int32)).toNatClampNeg) + (1 : Int32))) ((0 : Int32)).toNatClampNeg) + (0 : Int32))) ((3 : Int32)).toNatClampNeg (((upd (upd (s.2.1 34) ((2 : Int32)).toNatClampNeg (((s.2.1 34) ((2 : Int32)).toNatClampNeg) + (1 : Int32))) ((0 : Int32)).toNatClampNeg (((upd (s.2.1 34) ((2 : Int32)).toNatClampNeg (((s.2.1 34) ((2 : Int32)).toNatClampNeg) + (1 : Int32))) ((0 : Int32)).toNatClampNeg) + (0 : Int32))) ((3 : Int32)).toNatClampNeg) + (1 : Int32))) ((1 : Int32)).toNatClampNeg) + (0 : Int32)))))) ∧ (¬ (p0 = 0) → ((p1 = 0 → (pin (1 : Int32) 4 = true ∧ K (sA s 34 (upd (upd (upd (upd (s.2.1 34) ((2 : Int32)).toNatClampNeg (((s.2.1 34) ((2 : Int32)).toNatClampNeg) + (1 : Int32))) ((0 : Int32)).toNatClampNeg (((upd (s.2.1 34) ((2 : Int32)).toNatClampNeg (((s.2.1 34) ((2 : Int32)).toNatClampNeg) + (1 : Int32))) ((0 : Int32)).toNatClampNeg) + (0 : Int32))) ((3 : Int32)).toNatClampNeg (((upd (upd (s.2.1 34) ((2 : Int32)).toNatClampNeg (((s.2.1 34) ((2 : Int32)).toNatClampNeg) + (1 : Int32))) ((0 : Int32)).toNatClampNeg (((upd (s.2.1 34) ((2 : Int32)).toNatClampNeg (((s.2.1 34) ((2 : Int32)).toNatClampNeg) + (1 : Int32))) ((0 : Int32)).toNatClampNeg) + (0 : Int32))) ((3 : Int32)).toNatClampNeg) + (1 : Int32))) ((1 : Int32)).toNatClampNeg (((upd (upd (upd (s.2.1 34) ((2 : Int32)).toNatClampNeg (((s.2.1 34) ((2 : Int32)).toNatClampNeg) + (1 : Int32))) ((0 : Int32)).toNatClampNeg (((upd (s.2.1 34) ((2 : Int32)).toNatClampNeg (((s.2.1 34) ((2 : Int32)).toNatClampNeg) + (1 : Int32))) ((0 : Int32)).toNatClampNeg) + (0 : Int32))) ((3 : Int32)).toNatClampNeg (((upd (upd (s.2.1 34) ((2 : Int32)).toNatClampNeg (((s.2.1 34) ((2 : Int32)).toNatClampNeg) + (1 : Int32))) ((0 : Int32)).toNatClampNeg (((upd (s.2.1 34) ((2 : Int32)).toNatClampNeg (((s.2.1 34) ((2 : Int32)).toNatClampNeg) + (1 : Int32))) ((0 : Int32)).toNatClampNeg) + (0 : Int32))) ((3 : Int32)).toNatClampNeg) + (1 : Int32))) ((1 : Int32)).toNatClampNeg) + (0 : Int32)))))) ∧ (¬ (p1 = 0) → (pin (1 : Int32) 4 = true ∧ K (sA s 34 (upd (upd (upd (upd (s.2.1 34) ((2 : Int32)).toNatClampNeg (((s.2.1 34) ((2 : Int32)).toNatClampNeg) + (1 : Int32))) ((0 : Int32)).toNatClampNeg (((upd (s.2.1 34) ((2 : Int32)).toNatClampNeg (((s.2.1 34) ((2 : Int32)).toNatClampNeg) + (1 : Int32))) ((0 : Int32)).toNatClampNeg) + (0 : Int32))) ((3 : Int32)).toNatClampNeg (((upd (upd (s.2.1 34) ((2 : Int32)).toNatClampNeg (((s.2.1 34) ((2 : Int32)).toNatClampNeg) + (1 : Int32))) ((0 : Int32)).toNatClampNeg (((upd (s.2.1 34) ((2 : Int32)).toNatClampNeg (((s.2.1 34) ((2 : Int32)).toNatClampNeg) + (1 : Int32))) ((0 : Int32)).toNatClampNeg) + (0 : Int32))) ((3 : Int32)).toNatClampNeg) + (1 : Int32))) ((1 : Int32)).toNatClampNeg (((upd (upd (upd (s.2.1 34) ((2 : Int32)).toNatClampNeg (((s.2.1 34) ((2 : Int32)).toNatClampNeg) + (1 : Int32))) ((0 : Int32)).toNatClampNeg (((upd (s.2.1 34) ((2 : Int32)).toNatClampNeg (((s.2.1 34) ((2 : Int32)).toNatClampNeg) + (1 : Int32))) ((0 : Int32)).toNatClampNeg) + (0 : Int32))) ((3 : Int32)).toNatClampNeg (((upd (upd (s.2.1 34) ((2 : Int32)).toNatClampNeg (((s.2.1 34) ((2 : Int32)).toNatClampNeg) + (1 : Int32))) ((0 : Int32)).toNatClampNeg (((upd (s.2.1 34) ((2 : Int32)).toNatClampNeg (((s.2.1 34) ((2 : Int32)).toNatClampNeg) + (1 : Int32))) ((0 : Int32)).toNatClampNeg) + (0 : Int32))) ((3 : Int32)).toNatClampNeg) + (1 : Int32))) ((1 : Int32)).toNatClampNeg) + (1 : Int32)))))))))))))))) ∧ (¬ (p0 = 0) → (pin (0 : Int32) 4 = true ∧ (pin (3 : Int32) 4 = true ∧ ((p1 = 0 → (pin (3 : Int32) 4 = true ∧ (pin (1 : Int32) 4 = true ∧ ((p0 = 0 → (pin (1 : Int32) 4 = true ∧ K (sA s 34 (upd (upd (upd (upd (s.2.1 34) ((2 : Int32)).toNatClampNeg (((s.2.1 34) ((2 : Int32)).toNatClampNeg) + (1 : Int32))) ((0 : Int32)).toNatClampNeg (((upd (s.2.1 34) ((2 : Int32)).toNatClampNeg (((s.2.1 34) ((2 : Int32)).toNatClampNeg) + (1 : Int32))) ((0 : Int32)).toNatClampNeg) + (1 : Int32))) ((3 : Int32)).toNatClampNeg (((upd (upd (s.2.1 34) ((2 : Int32)).toNatClampNeg (((s.2.1 34) ((2 : Int32)).toNatClampNeg) + (1 : Int32))) ((0 : Int32)).toNatClampNeg (((upd (s.2.1 34) ((2 : Int32)).toNatClampNeg (((s.2.1 34) ((2 : Int32)).toNatClampNeg) + (1 : Int32))) ((0 : Int32)).toNatClampNeg) + (1 : Int32))) ((3 : Int32)).toNatClampNeg) + (0 : Int32))) ((1 : Int32)).toNatClampNeg (((upd (upd (upd (s.2.1 34) ((2 : Int32)).toNatClampNeg (((s.2.1 34) ((2 : Int32)).toNatClampNeg) + (1 : Int32))) ((0 : Int32)).toNatClampNeg (((upd (s.2.1 34) ((2 : Int32)).toNatClampNeg (((s.2.1 34) ((2 : Int32)).toNatClampNeg) + (1 : Int32))) ((0 : Int32)).toNatClampNeg) + (1 : Int32))) ((3 : Int32)).toNatClampNeg (((upd (upd (s.2.1 34) ((2 : Int32)).toNatClampNeg (((s.2.1 34) ((2 : Int32)).toNatClampNeg) + (1 : Int32))) ((0 : Int32)).toNatClampNeg (((upd (s.2.1 34) ((2 : Int32)).toNatClampNeg (((s.2.1 34) ((2 : Int32)).toNatClampNeg) + (1 : Int32))) ((0 : Int32)).toNatClampNeg) + (1 : Int32))) ((3 : Int32)).toNatClampNeg) + (0 : Int32))) ((1 : Int32)).toNatClampNeg) + (0 : Int32)))))) ∧ (¬ (p0 = 0) → ((p1 = 0 → (pin (1 : Int32) 4 = true ∧ K (sA s 34 (upd (upd (upd (upd (s.2.1 34) ((2 : Int32)).toNatClampNeg (((s.2.1 34) ((2 : Int32)).toNatClampNeg) + (1 : Int32))) ((0 : Int32)).toNatClampNeg (((upd (s.2.1 34) ((2 : Int32)).toNatClampNeg (((s.2.1 34) ((2 : Int32)).toNatClampNeg) + (1 : Int32))) ((0 : Int32)).toNatClampNeg) + (1 : Int32))) ((3 : Int32)).toNatClampNeg (((upd (upd (s.2.1 34) ((2 : Int32)).toNatClampNeg (((s.2.1 34) ((2 : Int32)).toNatClampNeg) + (1 : Int32))) ((0 : Int32)).toNatClampNeg (((upd (s.2.1 34) ((2 : Int32)).toNatClampNeg (((s.2.1 34) ((2 : Int32)).toNatClampNeg) + (1 : Int32))) ((0 : Int32)).toNatClampNeg) + (1 : Int32))) ((3 : Int32)).toNatClampNeg) + (0 : Int32))) ((1 : Int32)).toNatClampNeg (((upd (upd (upd (s.2.1 34) ((2 : Int32)).toNatClampNeg (((s.2.1 34) ((2 : Int32)).toNatClampNeg) + (1 : Int32))) ((0 : Int32)).toNatClampNeg (((upd (s.2.1 34) ((2 : Int32)).toNatClampNeg (((s.2.1 34) ((2 : Int32)).toNatClampNeg) + (1 : Int32))) ((0 : Int32)).toNatClampNeg) + (1 : Int32))) ((3 : Int32)).toNatClampNeg (((upd (upd (s.2.1 34) ((2 : Int32)).toNatClampNeg (((s.2.1 34) ((2 : Int32)).toNatClampNeg) + (1 : Int32))) ((0 : Int32)).toNatClampNeg (((upd (s.2.1 34) ((2 : Int32)).toNatClampNeg (((s.2.1 34) ((2 : Int32)).toNatClampNeg) + (1 : Int32))) ((0 : Int32)).toNatClampNeg) + (1 : Int32))) ((3 : Int32)).toNatClampNeg) + (0 : Int32))) ((1 : Int32)).toNatClampNeg) + (0 : Int32)))))) ∧ (¬ (p1 = 0) → (pin (1 : Int32) 4 = true ∧ K (sA s 34 (upd (upd (upd (upd (s.2.1 34) ((2 : Int32)).toNatClampNeg (((s.2.1 34) ((2 : Int32)).toNatClampNeg) + (1 : Int32))) ((0 : Int32)).toNatClampNeg (((upd (s.2.1 34) ((2 : Int32)).toNatClampNeg (((s.2.1 34) ((2 : Int32)).toNatClampNeg) + (1 : Int32))) ((0 : Int32)).toNatClampNeg) + (1 : Int32))) ((3 : Int32)).toNatClampNeg (((upd (upd (s.2.1 34) ((2 : Int32)).toNatClampNeg (((s.2.1 34) ((2 : Int32)).toNatClampNeg) + (1 : Int32))) ((0 : Int32)).toNatClampNeg (((upd (s.2.1 34) ((2 : Int32)).toNatClampNeg (((s.2.1 34) ((2 : Int32)).toNatClampNeg) + (1 : Int32))) ((0 : Int32)).toNatClampNeg) + (1 : Int32))) ((3 : Int32)).toNatClampNeg) + (0 : Int32))) ((1 : Int32)).toNatClampNeg (((upd (upd (upd (s.2.1 34) ((2 : Int32)).toNatClampNeg (((s.2.1 34) ((2 : Int32)).toNatClampNeg) + (1 : Int32))) ((0 : Int32)).toNatClampNeg (((upd (s.2.1 34) ((2 : Int32)).toNatClampNeg (((s.2.1 34) ((2 : Int32)).toNatClampNeg) + (1 : Int32))) ((0 : Int32)).toNatClampNeg) + (1 : Int32))) ((3 : Int32)).toNatClampNeg (((upd (upd (s.2.1 34) ((2 : Int32)).toNatClampNeg (((s.2.1 34) ((2 : Int32)).toNatClampNeg) + (1 : Int32))) ((0 : Int32)).toNatClampNeg (((upd (s.2.1 34) ((2 : Int32)).toNatClampNeg (((s.2.1 34) ((2 : Int32)).toNatClampNeg) + (1 : Int32))) ((0 : Int32)).toNatClampNeg) + (1 : Int32))) ((3 : Int32)).toNatClampNeg) + (0 : Int32))) ((1 : Int32)).toNatClampNeg) + (1 : Int32)))))))))))) ∧ (¬ (p1 = 0) → (pin (3 : Int32) 4 = true ∧ (pin (1 : Int32) 4 = true ∧ ((p0 = 0 → (pin (1 : Int32) 4 = true ∧ K (sA s 34 (upd (upd (upd (upd (s.2.1 34) ((2 : Int32)).toNatClampNeg (((s.2.1 34) ((2 : Int32)).toNatClampNeg) + (1 : Int32))) ((0 : Int32)).toNatClampNeg (((upd (s.2.1 34) ((2 : Int32)).toNatClampNeg (((s.2.1 34) ((2 : Int32)).toNatClampNeg) + (1 : Int32))) ((0 : Int32)).toNatClampNeg) + (1 : Int32))) ((3 : Int32)).toNatClampNeg (((upd (upd (s.2.1 34) ((2 : Int32)).toNatClampNeg (((s.2.1 34) ((2 : Int32)).toNatClampNeg) + (1 : Int32))) ((0 : Int32)).toNatClampNeg (((upd (s.2.1 34) ((2 : Int32)).toNatClampNeg (((s.2.1 34) ((2 : Int32)).toNatClampNeg) + (1 : Int32))) ((0 : Int32)).toNatClampNeg) + (1 : Int32))) ((3 : Int32)).toNatClampNeg) + (1 : Int32))) ((1 : Int32)).toNatClampNeg (((upd (upd (upd (s.2.1 34) ((2 : Int32)).toNatClampNeg (((s.2.1 34) ((2 : Int32)).toNatClampNeg) + (1 : Int32))) ((0 : Int32)).toNatClampNeg (((upd (s.2.1 34) ((2 : Int32)).toNatClampNeg (((s.2.1 34) ((2 : Int32)).toNatClampNeg) + (1 : Int32))) ((0 : Int32)).toNatClampNeg) + (1 : Int32))) ((3 : Int32)).toNatClampNeg (((upd (upd (s.2.1 34) ((2 : Int32)).toNatClampNeg (((s.2.1 34) ((2 : Int32)).toNatClampNeg) + (1 : Int32))) ((0 : Int32)).toNatClampNeg (((upd (s.2.1 34) ((2 : Int32)).toNatClampNeg (((s.2.1 34) ((2 : Int32)).toNatClampNeg) + (1 : Int32))) ((0 : Int32)).toNatClampNeg) + (1 : Int32))) ((3 : Int32)).toNatClampNeg) + (1 : Int32))) ((1 : Int32)).toNatClampNeg) + (0 : Int32)))))) ∧ (¬ (p0 = 0) → ((p1 = 0 → (pin (1 : Int32) 4 = true ∧ K (sA s 34 (upd (upd (upd (upd (s.2.1 34) ((2 : Int32)).toNatClampNeg (((s.2.1 34) ((2 : Int32)).toNatClampNeg) + (1 : Int32))) ((0 : Int32)).toNatClampNeg (((upd (s.2.1 34) ((2 : Int32)).toNatClampNeg (((s.2.1 34) ((2 : Int32)).toNatClampNeg) + (1 : Int32))) ((0 : Int32)).toNatClampNeg) + (1 : Int32))) ((3 : Int32)).toNatClampNeg (((upd (upd (s.2.1 34) ((2 : Int32)).toNatClampNeg (((s.2.1 34) ((2 : Int32)).toNatClampNeg) + (1 : Int32))) ((0 : Int32)).toNatClampNeg (((upd (s.2.1 34) ((2 : Int32)).toNatClampNeg (((s.2.1 34) ((2 : Int32)).toNatClampNeg) + (1 : Int32))) ((0 : Int32)).toNatClampNeg) + (1 : Int32))) ((3 : Int32)).toNatClampNeg) + (1 : Int32))) ((1 : Int32)).toNatClampNeg (((upd (upd (upd (s.2.1 34) ((2 : Int32)).toNatClampNeg (((s.2.1 34) ((2 : Int32)).toNatClampNeg) + (1 : Int32))) ((0 : Int32)).toNatClampNeg (((upd (s.2.1 34) ((2 : Int32)).toNatClampNeg (((s.2.1 34) ((2 : Int32)).toNatClampNeg) + (1 : Int32))) ((0 : Int32)).toNatClampNeg) + (1 : Int32))) ((3 : Int32)).toNatClampNeg (((upd (upd (s.2.1 34) ((2 : Int32)).toNatClampNeg (((s.2.1 34) ((2 : Int32)).toNatClampNeg) + (1 : Int32))) ((0 : Int32)).toNatClampNeg (((upd (s.2.1 34) ((2 : Int32)).toNatClampNeg (((s.2.1 34) ((2 : Int32)).toNatClampNeg) + (1 : Int32))) ((0 : Int32)).toNatClampNeg) + (1 : Int32))) ((3 : Int32)).toNatClampNeg) + (1 : Int32))) ((1 : Int32)).toNatClampNeg) + (0 : Int32)))))) ∧ (¬ (p1 = 0) → (pin (1 : Int32) 4 = true ∧ K (sA s 34 (upd (upd (upd (upd (s.2.1 34) ((2 : Int32)).toNatClampNeg (((s.2.1 34) ((2 : Int32)).toNatClampNeg) + (1 : Int32))) ((0 : Int32)).toNatClampNeg (((upd (s.2.1 34) ((2 : Int32)).toNatClampNeg (((s.2.1 34) ((2 : Int32)).toNatClampNeg) + (1 : Int32))) ((0 : Int32)).toNatClampNeg) + (1 : Int32))) ((3 : Int32)).toNatClampNeg (((upd (upd (s.2.1 34) ((2 : Int32)).toNatClampNeg (((s.2.1 34) ((2 : Int32)).toNatClampNeg) + (1 : Int32))) ((0 : Int32)).toNatClampNeg (((upd (s.2.1 34) ((2 : Int32)).toNatClampNeg (((s.2.1 34) ((2 : Int32)).toNatClampNeg) + (1 : Int32))) ((0 : Int32)).toNatClampNeg) + (1 : Int32))) ((3 : Int32)).toNatClampNeg) + (1 : Int32))) ((1 : Int32)).toNatClampNeg (((upd (upd (upd (s.2.1 34) ((2 : Int32)).toNatClampNeg (((s.2.1 34) ((2 : Int32)).toNatClampNeg) + (1 : Int32))) ((0 : Int32)).toNatClampNeg (((upd (s.2.1 34) ((2 : Int32)).toNatClampNeg (((s.2.1 34) ((2 : Int32)).toNatClampNeg) + (1 : Int32))) ((0 : Int32)).toNatClampNeg) + (1 : Int32))) ((3 : Int32)).toNatClampNeg (((upd (upd (s.2.1 34) ((2 : Int32)).toNatClampNeg (((s.2.1 34) ((2 : Int32)).toNatClampNeg) + (1 : Int32))) ((0 : Int32)).toNatClampNeg (((upd (s.2.1 34) ((2 : Int32)).toNatClampNeg (((s.2.1 34) ((2 : Int32)).toNatClampNeg) + (1 : Int32))) ((0 : Int32)).toNatClampNeg) + (1 : Int32))) ((3 : Int32)).toNatClampNeg) + (1 : Int32))) ((1 : Int32)).toNatClampNeg) + (1 : Int32))))))))))))))))))))
theorem q_156 {d : Nat} {K : ST → Prop} (p0 : Int32) (p1 : Int32) (s : ST) (k : w_156 p0 p1 s K) : Rn sc (d + 0) 156 [.ref 0, .int p0, .int p1] (hpS s) (kV K) := by
  have hq : prog[156]? = some pm156 := rfl
  refine Rn.of (L := [.ref 0, .int p0, .int p1]) hq rfl rfl ?_
  unfold w_156 at k
  refine Ex.seg hq 4 (j := 4) (L' := [.ref 0, .int p0, .int p1]) (S' := [.int (2 : Int32), .ref 34, .int (2 : Int32), .ref 34]) (h' := hpS s) rfl ?_
  obtain ⟨hin, k⟩ := k
  refine Ex.ial hq rfl rfl hin ?_
  refine Ex.seg hq 2 (j := 7) (L' := [.ref 0, .int p0, .int p1]) (S' := [.int (((s.2.1 34) ((2 : Int32)).toNatClampNeg) + (1 : Int32)), .int (2 : Int32), .ref 34]) (h' := hpS s) rfl ?_
  obtain ⟨hin, k⟩ := k
  refine Ex.ias hq rfl rfl hin (h' := hpS (sA s 34 (upd (s.2.1 34) ((2 : Int32)).toNatClampNeg (((s.2.1 34) ((2 : Int32)).toNatClampNeg) + (1 : Int32))))) (hset_34 _ _) ?_
  refine Ex.seg hq 4 (j := 12) (L' := [.ref 0, .int p0, .int p1]) (S' := [.int (0 : Int32), .ref 34, .int (0 : Int32), .ref 34]) (h' := hpS (sA s 34 (upd (s.2.1 34) ((2 : Int32)).toNatClampNeg (((s.2.1 34) ((2 : Int32)).toNatClampNeg) + (1 : Int32))))) rfl ?_
  obtain ⟨hin, k⟩ := k
  refine Ex.ial hq rfl rfl hin ?_
  refine Ex.seg hq 1 (j := 14) (L' := [.ref 0, .int p0, .int p1]) (S' := [.int p0, .int ((upd (s.2.1 34) ((2 : Int32)).toNatClampNeg (((s.2.1 34) ((2 : Int32)).toNatClampNeg) + (1 : Int32))) ((0 : Int32)).toNatClampNeg), .int (0 : Int32), .ref 34]) (h' := hpS (sA s 34 (upd (s.2.1 34) ((2 : Int32)).toNatClampNeg (((s.2.1 34) ((2 : Int32)).toNatClampNeg) + (1 : Int32))))) rfl ?_
  refine Ex.i1 hq rfl (fun c => ?_) (fun c => ?_)
  · have k := k.1 c
    refine Ex.seg hq 2 (j := 19) (L' := [.ref 0, .int p0, .int p1]) (S' := [.int (((upd (s.2.1 34) ((2 : Int32)).toNatClampNeg (((s.2.1 34) ((2 : Int32)).toNatClampNeg) + (1 : Int32))) ((0 : Int32)).toNatClampNeg) + (0 : Int32)), .int (0 : Int32), .ref 34]) (h' := hpS (sA s 34 (upd (s.2.1 34) ((2 : Int32)).toNatClampNeg (((s.2.1 34) ((2 : Int32)).toNatClampNeg) + (1 : Int32))))) rfl ?_
    obtain ⟨hin, k⟩ := k
    refine Ex.ias hq rfl rfl hin (h' := hpS (sA s 34 (upd (upd (s.2.1 34) ((2 : Int32)).toNatClampNeg (((s.2.1 34) ((2 : Int32)).toNatClampNeg) + (1 : Int32))) ((0 : Int32)).toNatClampNeg (((upd (s.2.1 34) ((2 : Int32)).toNatClampNeg (((s.2.1 34) ((2 : Int32)).toNatClampNeg) + (1 : Int32))) ((0 : Int32)).toNatClampNeg) + (0 : Int32))))) (hset_34 _ _) ?_
    refine Ex.seg hq 4 (j := 24) (L' := [.ref 0, .int p0, .int p1]) (S' := [.int (3 : Int32), .ref 34, .int (3 : Int32), .ref 34]) (h' := hpS (sA s 34 (upd (upd (s.2.1 34) ((2 : Int32)).toNatClampNeg (((s.2.1 34) ((2 : Int32)).toNatClampNeg) + (1 : Int32))) ((0 : Int32)).toNatClampNeg (((upd (s.2.1 34) ((2 : Int32)).toNatClampNeg (((s.2.1 34) ((2 : Int32)).toNatClampNeg) + (1 : Int32))) ((0 : Int32)).toNatClampNeg) + (0 : Int32))))) rfl ?_
    obtain ⟨hin, k⟩ := k
    refine Ex.ial hq rfl rfl hin ?_
    refine Ex.seg hq 1 (j := 26) (L' := [.ref 0, .int p0, .int p1]) (S' := [.int p1, .int ((upd (upd (s.2.1 34) ((2 : Int32)).toNatClampNeg (((s.2.1 34) ((2 : Int32)).toNatClampNeg) + (1 : Int32))) ((0 : Int32)).toNatClampNeg (((upd (s.2.1 34) ((2 : Int32)).toNatClampNeg (((s.2.1 34) ((2 : Int32)).toNatClampNeg) + (1 : Int32))) ((0 : Int32)).toNatClampNeg) + (0 : Int32))) ((3 : Int32)).toNatClampNeg), .int (3 : Int32), .ref 34]) (h' := hpS (sA s 34 (upd (upd (s.2.1 34) ((2 : Int32)).toNatClampNeg (((s.2.1 34) ((2 : Int32)).toNatClampNeg) + (1 : Int32))) ((0 : Int32)).toNatClampNeg (((upd (s.2.1 34) ((2 : Int32)).toNatClampNeg (((s.2.1 34) ((2 : Int32)).toNatClampNeg) + (1 : Int32))) ((0 : Int32)).toNatClampNeg) + (0 : Int32))))) rfl ?_
    refine Ex.i1 hq rfl (fun c => ?_) (fun c => ?_)
    · have k := k.1 c
      refine Ex.seg hq 2 (j := 31) (L' := [.ref 0, .int p0, .int p1]) (S' := [.int (((upd (upd (s.2.1 34) ((2 : Int32)).toNatClampNeg (((s.2.1 34) ((2 : Int32)).toNatClampNeg) + (1 : Int32))) ((0 : Int32)).toNatClampNeg (((upd (s.2.1 34) ((2 : Int32)).toNatClampNeg (((s.2.1 34) ((2 : Int32)).toNatClampNeg) + (1 : Int32))) ((0 : Int32)).toNatClampNeg) + (0 : Int32))) ((3 : Int32)).toNatClampNeg) + (0 : Int32)), .int (3 : Int32), .ref 34]) (h' := hpS (sA s 34 (upd (upd (s.2.1 34) ((2 : Int32)).toNatClampNeg (((s.2.1 34) ((2 : Int32)).toNatClampNeg) + (1 : Int32))) ((0 : Int32)).toNatClampNeg (((upd (s.2.1 34) ((2 : Int32)).toNatClampNeg (((s.2.1 34) ((2 : Int32)).toNatClampNeg) + (1 : Int32))) ((0 : Int32)).toNatClampNeg) + (0 : Int32))))) rfl ?_
      obtain ⟨hin, k⟩ := k
      refine Ex.ias hq rfl rfl hin (h' := hpS (sA s 34 (upd (upd (upd (s.2.1 34) ((2 : Int32)).toNatClampNeg (((s.2.1 34) ((2 : Int32)).toNatClampNeg) + (1 : Int32))) ((0 : Int32)).toNatClampNeg (((upd (s.2.1 34) ((2 : Int32)).toNatClampNeg (((s.2.1 34) ((2 : Int32)).toNatClampNeg) + (1 : Int32))) ((0 : Int32)).toNatClampNeg) + (0 : Int32))) ((3 : Int32)).toNatClampNeg (((upd (upd (s.2.1 34) ((2 : Int32)).toNatClampNeg (((s.2.1 34) ((2 : Int32)).toNatClampNeg) + (1 : Int32))) ((0 : Int32)).toNatClampNeg (((upd (s.2.1 34) ((2 : Int32)).toNatClampNeg (((s.2.1 34) ((2 : Int32)).toNatClampNeg) + (1 : Int32))) ((0 : Int32)).toNatClampNeg) + (0 : Int32))) ((3 : Int32)).toNatClampNeg) + (0 : Int32))))) (hset_34 _ _) ?_
      refine Ex.seg hq 4 (j := 36) (L' := [.ref 0, .int p0, .int p1]) (S' := [.int (1 : Int32), .ref 34, .int (1 : Int32), .ref 34]) (h' := hpS (sA s 34 (upd (upd (upd (s.2.1 34) ((2 : Int32)).toNatClampNeg (((s.2.1 34) ((2 : Int32)).toNatClampNeg) + (1 : Int32))) ((0 : Int32)).toNatClampNeg (((upd (s.2.1 34) ((2 : Int32)).toNatClampNeg (((s.2.1 34) ((2 : Int32)).toNatClampNeg) + (1 : Int32))) ((0 : Int32)).toNatClampNeg) + (0 : Int32))) ((3 : Int32)).toNatClampNeg (((upd (upd (s.2.1 34) ((2 : Int32)).toNatClampNeg (((s.2.1 34) ((2 : Int32)).toNatClampNeg) + (1 : Int32))) ((0 : Int32)).toNatClampNeg (((upd (s.2.1 34) ((2 : Int32)).toNatClampNeg (((s.2.1 34) ((2 : Int32)).toNatClampNeg) + (1 : Int32))) ((0 : Int32)).toNatClampNeg) + (0 : Int32))) ((3 : Int32)).toNatClampNeg) + (0 : Int32))))) rfl ?_
      obtain ⟨hin, k⟩ := k
      refine Ex.ial hq rfl rfl hin ?_
      refine Ex.seg hq 1 (j := 38) (L' := [.ref 0, .int p0, .int p1]) (S' := [.int p0, .int ((upd (upd (upd (s.2.1 34) ((2 : Int32)).toNatClampNeg (((s.2.1 34) ((2 : Int32)).toNatClampNeg) + (1 : Int32))) ((0 : Int32)).toNatClampNeg (((upd (s.2.1 34) ((2 : Int32)).toNatClampNeg (((s.2.1 34) ((2 : Int32)).toNatClampNeg) + (1 : Int32))) ((0 : Int32)).toNatClampNeg) + (0 : Int32))) ((3 : Int32)).toNatClampNeg (((upd (upd (s.2.1 34) ((2 : Int32)).toNatClampNeg (((s.2.1 34) ((2 : Int32)).toNatClampNeg) + (1 : Int32))) ((0 : Int32)).toNatClampNeg (((upd (s.2.1 34) ((2 : Int32)).toNatClampNeg (((s.2.1 34) ((2 : Int32)).toNatClampNeg) + (1 : Int32))) ((0 : Int32)).toNatClampNeg) + (0 : Int32))) ((3 : Int32)).toNatClampNeg) + (0 : Int32))) ((1 : Int32)).toNatClampNeg), .int (1 : Int32), .ref 34]) (h' := hpS (sA s 34 (upd (upd (upd (s.2.1 34) ((2 : Int32)).toNatClampNeg (((s.2.1 34) ((2 : Int32)).toNatClampNeg) + (1 : Int32))) ((0 : Int32)).toNatClampNeg (((upd (s.2.1 34) ((2 : Int32)).toNatClampNeg (((s.2.1 34) ((2 : Int32)).toNatClampNeg) + (1 : Int32))) ((0 : Int32)).toNatClampNeg) + (0 : Int32))) ((3 : Int32)).toNatClampNeg (((upd (upd (s.2.1 34) ((2 : Int32)).toNatClampNeg (((s.2.1 34) ((2 : Int32)).toNatClampNeg) + (1 : Int32))) ((0 : Int32)).toNatClampNeg (((upd (s.2.1 34) ((2 : Int32)).toNatClampNeg (((s.2.1 34) ((2 : Int32)).toNatClampNeg) + (1 : Int32))) ((0 : Int32)).toNatClampNeg) + (0 : Int32))) ((3 : Int32)).toNatClampNeg) + (0 : Int32))))) rfl ?_
      refine Ex.i1 hq rfl (fun c => ?_) (fun c => ?_)
      · have k := k.1 c
        refine Ex.seg hq 2 (j := 45) (L' := [.ref 0, .int p0, .int p1]) (S' := [.int (((upd (upd (upd (s.2.1 34) ((2 : Int32)).toNatClampNeg (((s.2.1 34) ((2 : Int32)).toNatClampNeg) + (1 : Int32))) ((0 : Int32)).toNatClampNeg (((upd (s.2.1 34) ((2 : Int32)).toNatClampNeg (((s.2.1 34) ((2 : Int32)).toNatClampNeg) + (1 : Int32))) ((0 : Int32)).toNatClampNeg) + (0 : Int32))) ((3 : Int32)).toNatClampNeg (((upd (upd (s.2.1 34) ((2 : Int32)).toNatClampNeg (((s.2.1 34) ((2 : Int32)).toNatClampNeg) + (1 : Int32))) ((0 : Int32)).toNatClampNeg (((upd (s.2.1 34) ((2 : Int32)).toNatClampNeg (((s.2.1 34) ((2 : Int32)).toNatClampNeg) + (1 : Int32))) ((0 : Int32)).toNatClampNeg) + (0 : Int32))) ((3 : Int32)).toNatClampNeg) + (0 : Int32))) ((1 : Int32)).toNatClampNeg) + (0 : Int32)), .int (1 : Int32), .ref 34]) (h' := hpS (sA s 34 (upd (upd (upd (s.2.1 34) ((2 : Int32)).toNatClampNeg (((s.2.1 34) ((2 : Int32)).toNatClampNeg) + (1 : Int32))) ((0 : Int32)).toNatClampNeg (((upd (s.2.1 34) ((2 : Int32)).toNatClampNeg (((s.2.1 34) ((2 : Int32)).toNatClampNeg) + (1 : Int32))) ((0 : Int32)).toNatClampNeg) + (0 : Int32))) ((3 : Int32)).toNatClampNeg (((upd (upd (s.2.1 34) ((2 : Int32)).toNatClampNeg (((s.2.1 34) ((2 : Int32)).toNatClampNeg) + (1 : Int32))) ((0 : Int32)).toNatClampNeg (((upd (s.2.1 34) ((2 : Int32)).toNatClampNeg (((s.2.1 34) ((2 : Int32)).toNatClampNeg) + (1 : Int32))) ((0 : Int32)).toNatClampNeg) + (0 : Int32))) ((3 : Int32)).toNatClampNeg) + (0 : Int32))))) rfl ?_
        obtain ⟨hin, k⟩ := k
        refine Ex.ias hq rfl rfl hin (h' := hpS (sA s 34 (upd (upd (upd (upd (s.2.1 34) ((2 : Int32)).toNatClampNeg (((s.2.1 34) ((2 : Int32)).toNatClampNeg) + (1 : Int32))) ((0 : Int32)).toNatClampNeg (((upd (s.2.1 34) ((2 : Int32)).toNatClampNeg (((s.2.1 34) ((2 : Int32)).toNatClampNeg) + (1 : Int32))) ((0 : Int32)).toNatClampNeg) + (0 : Int32))) ((3 : Int32)).toNatClampNeg (((upd (upd (s.2.1 34) ((2 : Int32)).toNatClampNeg (((s.2.1 34) ((2 : Int32)).toNatClampNeg) + (1 : Int32))) ((0 : Int32)).toNatClampNeg (((upd (s.2.1 34) ((2 : Int32)).toNatClampNeg (((s.2.1 34) ((2 : Int32)).toNatClampNeg) + (1 : Int32))) ((0 : Int32)).toNatClampNeg) + (0 : Int32))) ((3 : Int32)).toNatClampNeg) + (0 : Int32))) ((1 : Int32)).toNatClampNeg (((upd (upd (upd (s.2.1 34) ((2 : Int32)).toNatClampNeg (((s.2.1 34) ((2 : Int32)).toNatClampNeg) + (1 : Int32))) ((0 : Int32)).toNatClampNeg (((upd (s.2.1 34) ((2 : Int32)).toNatClampNeg (((s.2.1 34) ((2 : Int32)).toNatClampNeg) + (1 : Int32))) ((0 : Int32)).toNatClampNeg) + (0 : Int32))) ((3 : Int32)).toNatClampNeg (((upd (upd (s.2.1 34) ((2 : Int32)).toNatClampNeg (((s.2.1 34) ((2 : Int32)).toNatClampNeg) + (1 : Int32))) ((0 : Int32)).toNatClampNeg (((upd (s.2.1 34) ((2 : Int32)).toNatClampNeg (((s.2.1 34) ((2 : Int32)).toNatClampNeg) + (1 : Int32))) ((0 : Int32)).toNatClampNeg) + (0 : Int32))) ((3 : Int32)).toNatClampNeg) + (0 : Int32))) ((1 : Int32)).toNatClampNeg) + (0 : Int32))))) (hset_34 _ _) ?_
        exact Ex.rt hq rfl rfl ⟨(sA s 34 (upd (upd (upd (upd (s.2.1 34) ((2 : Int32)).toNatClampNeg (((s.2.1 34) ((2 : Int32)).toNatClampNeg) + (1 : Int32))) ((0 : Int32)).toNatClampNeg (((upd (s.2.1 34) ((2 : Int32)).toNatClampNeg (((s.2.1 34) ((2 : Int32)).toNatClampNeg) + (1 : Int32))) ((0 : Int32)).toNatClampNeg) + (0 : Int32))) ((3 : Int32)).toNatClampNeg (((upd (upd (s.2.1 34) ((2 : Int32)).toNatClampNeg (((s.2.1 34) ((2 : Int32)).toNatClampNeg) + (1 : Int32))) ((0 : Int32)).toNatClampNeg (((upd (s.2.1 34) ((2 : Int32)).toNatClampNeg (((s.2.1 34) ((2 : Int32)).toNatClampNeg) + (1 : Int32))) ((0 : Int32)).toNatClampNeg) + (0 : Int32))) ((3 : Int32)).toNatClampNeg) + (0 : Int32))) ((1 : Int32)).toNatClampNeg (((upd (upd (upd (s.2.1 34) ((2 : Int32)).toNatClampNeg (((s.2.1 34) ((2 : Int32)).toNatClampNeg) + (1 : Int32))) ((0 : Int32)).toNatClampNeg (((upd (s.2.1 34) ((2 : Int32)).toNatClampNeg (((s.2.1 34) ((2 : Int32)).toNatClampNeg) + (1 : Int32))) ((0 : Int32)).toNatClampNeg) + (0 : Int32))) ((3 : Int32)).toNatClampNeg (((upd (upd (s.2.1 34) ((2 : Int32)).toNatClampNeg (((s.2.1 34) ((2 : Int32)).toNatClampNeg) + (1 : Int32))) ((0 : Int32)).toNatClampNeg (((upd (s.2.1 34) ((2 : Int32)).toNatClampNeg (((s.2.1 34) ((2 : Int32)).toNatClampNeg) + (1 : Int32))) ((0 : Int32)).toNatClampNeg) + (0 : Int32))) ((3 : Int32)).toNatClampNeg) + (0 : Int32))) ((1 : Int32)).toNatClampNeg) + (0 : Int32)))), rfl, rfl, k⟩
      · have k := k.2 c
        refine Ex.seg hq 1 (j := 40) (L' := [.ref 0, .int p0, .int p1]) (S' := [.int p1, .int ((upd (upd (upd (s.2.1 34) ((2 : Int32)).toNatClampNeg (((s.2.1 34) ((2 : Int32)).toNatClampNeg) + (1 : Int32))) ((0 : Int32)).toNatClampNeg (((upd (s.2.1 34) ((2 : Int32)).toNatClampNeg (((s.2.1 34) ((2 : Int32)).toNatClampNeg) + (1 : Int32))) ((0 : Int32)).toNatClampNeg) + (0 : Int32))) ((3 : Int32)).toNatClampNeg (((upd (upd (s.2.1 34) ((2 : Int32)).toNatClampNeg (((s.2.1 34) ((2 : Int32)).toNatClampNeg) + (1 : Int32))) ((0 : Int32)).toNatClampNeg (((upd (s.2.1 34) ((2 : Int32)).toNatClampNeg (((s.2.1 34) ((2 : Int32)).toNatClampNeg) + (1 : Int32))) ((0 : Int32)).toNatClampNeg) + (0 : Int32))) ((3 : Int32)).toNatClampNeg) + (0 : Int32))) ((1 : Int32)).toNatClampNeg), .int (1 : Int32), .ref 34]) (h' := hpS (sA s 34 (upd (upd (upd (s.2.1 34) ((2 : Int32)).toNatClampNeg (((s.2.1 34) ((2 : Int32)).toNatClampNeg) + (1 : Int32))) ((0 : Int32)).toNatClampNeg (((upd (s.2.1 34) ((2 : Int32)).toNatClampNeg (((s.2.1 34) ((2 : Int32)).toNatClampNeg) + (1 : Int32))) ((0 : Int32)).toNatClampNeg) + (0 : Int32))) ((3 : Int32)).toNatClampNeg (((upd (upd (s.2.1 34) ((2 : Int32)).toNatClampNeg (((s.2.1 34) ((2 : Int32)).toNatClampNeg) + (1 : Int32))) ((0 : Int32)).toNatClampNeg (((upd (s.2.1 34) ((2 : Int32)).toNatClampNeg (((s.2.1 34) ((2 : Int32)).toNatClampNeg) + (1 : Int32))) ((0 : Int32)).toNatClampNeg) + (0 : Int32))) ((3 : Int32)).toNatClampNeg) + (0 : Int32))))) rfl ?_
        refine Ex.i1 hq rfl (fun c => ?_) (fun c => ?_)
        · have k := k.1 c
          refine Ex.seg hq 2 (j := 45) (L' := [.ref 0, .int p0, .int p1]) (S' := [.int (((upd (upd (upd (s.2.1 34) ((2 : Int32)).toNatClampNeg (((s.2.1 34) ((2 : Int32)).toNatClampNeg) + (1 : Int32))) ((0 : Int32)).toNatClampNeg (((upd (s.2.1 34) ((2 : Int32)).toNatClampNeg (((s.2.1 34) ((2 : Int32)).toNatClampNeg) + (1 : Int32))) ((0 : Int32)).toNatClampNeg) + (0 : Int32))) ((3 : Int32)).toNatClampNeg (((upd (upd (s.2.1 34) ((2 : Int32)).toNatClampNeg (((s.2.1 34) ((2 : Int32)).toNatClampNeg) + (1 : Int32))) ((0 : Int32)).toNatClampNeg (((upd (s.2.1 34) ((2 : Int32)).toNatClampNeg (((s.2.1 34) ((2 : Int32)).toNatClampNeg) + (1 : Int32))) ((0 : Int32)).toNatClampNeg) + (0 : Int32))) ((3 : Int32)).toNatClampNeg) + (0 : Int32))) ((1 : Int32)).toNatClampNeg) + (0 : Int32)), .int (1 : Int32), .ref 34]) (h' := hpS (sA s 34 (upd (upd (upd (s.2.1 34) ((2 : Int32)).toNatClampNeg (((s.2.1 34) ((2 : Int32)).toNatClampNeg) + (1 : Int32))) ((0 : Int32)).toNatClampNeg (((upd (s.2.1 34) ((2 : Int32)).toNatClampNeg (((s.2.1 34) ((2 : Int32)).toNatClampNeg) + (1 : Int32))) ((0 : Int32)).toNatClampNeg) + (0 : Int32))) ((3 : Int32)).toNatClampNeg (((upd (upd (s.2.1 34) ((2 : Int32)).toNatClampNeg (((s.2.1 34) ((2 : Int32)).toNatClampNeg) + (1 : Int32))) ((0 : Int32)).toNatClampNeg (((upd (s.2.1 34) ((2 : Int32)).toNatClampNeg (((s.2.1 34) ((2 : Int32)).toNatClampNeg) + (1 : Int32))) ((0 : Int32)).toNatClampNeg) + (0 : Int32))) ((3 : Int32)).toNatClampNeg) + (0 : Int32))))) rfl ?_
          obtain ⟨hin, k⟩ := k
          refine Ex.ias hq rfl rfl hin (h' := hpS (sA s 34 (upd (upd (upd (upd (s.2.1 34) ((2 : Int32)).toNatClampNeg (((s.2.1 34) ((2 : Int32)).toNatClampNeg) + (1 : Int32))) ((0 : Int32)).toNatClampNeg (((upd (s.2.1 34) ((2 : Int32)).toNatClampNeg (((s.2.1 34) ((2 : Int32)).toNatClampNeg) + (1 : Int32))) ((0 : Int32)).toNatClampNeg) + (0 : Int32))) ((3 : Int32)).toNatClampNeg (((upd (upd (s.2.1 34) ((2 : Int32)).toNatClampNeg (((s.2.1 34) ((2 : Int32)).toNatClampNeg) + (1 : Int32))) ((0 : Int32)).toNatClampNeg (((upd (s.2.1 34) ((2 : Int32)).toNatClampNeg (((s.2.1 34) ((2 : Int32)).toNatClampNeg) + (1 : Int32))) ((0 : Int32)).toNatClampNeg) + (0 : Int32))) ((3 : Int32)).toNatClampNeg) + (0 : Int32))) ((1 : Int32)).toNatClampNeg (((upd (upd (upd (s.2.1 34) ((2 : Int32)).toNatClampNeg (((s.2.1 34) ((2 : Int32)).toNatClampNeg) + (1 : Int32))) ((0 : Int32)).toNatClampNeg (((upd (s.2.1 34) ((2 : Int32)).toNatClampNeg (((s.2.1 34) ((2 : Int32)).toNatClampNeg) + (1 : Int32))) ((0 : Int32)).toNatClampNeg) + (0 : Int32))) ((3 : Int32)).toNatClampNeg (((upd (upd (s.2.1 34) ((2 : Int32)).toNatClampNeg (((s.2.1 34) ((2 : Int32)).toNatClampNeg) + (1 : Int32))) ((0 : Int32)).toNatClampNeg (((upd (s.2.1 34) ((2 : Int32)).toNatClampNeg (((s.2.1 34) ((2 : Int32)).toNatClampNeg) + (1 : Int32))) ((0 : Int32)).toNatClampNeg) + (0 : Int32))) ((3 : Int32)).toNatClampNeg) + (0 : Int32))) ((1 : Int32)).toNatClampNeg) + (0 : Int32))))) (hset_34 _ _) ?_
          exact Ex.rt hq rfl rfl ⟨(sA s 34 (upd (upd (upd (upd (s.2.1 34) ((2 : Int32)).toNatClampNeg (((s.2.1 34) ((2 : Int32)).toNatClampNeg) + (1 : Int32))) ((0 : Int32)).toNatClampNeg (((upd (s.2.1 34) ((2 : Int32)).toNatClampNeg (((s.2.1 34) ((2 : Int32)).toNatClampNeg) + (1 : Int32))) ((0 : Int32)).toNatClampNeg) + (0 : Int32))) ((3 : Int32)).toNatClampNeg (((upd (upd (s.2.1 34) ((2 : Int32)).toNatClampNeg (((s.2.1 34) ((2 : Int32)).toNatClampNeg) + (1 : Int32))) ((0 : Int32)).toNatClampNeg (((upd (s.2.1 34) ((2 : Int32)).toNatClampNeg (((s.2.1 34) ((2 : Int32)).toNatClampNeg) + (1 : Int32))) ((0 : Int32)).toNatClampNeg) + (0 : Int32))) ((3 : Int32)).toNatClampNeg) + (0 : Int32))) ((1 : Int32)).toNatClampNeg (((upd (upd (upd (s.2.1 34) ((2 : Int32)).toNatClampNeg (((s.2.1 34) ((2 : Int32)).toNatClampNeg) + (1 : Int32))) ((0 : Int32)).toNatClampNeg (((upd (s.2.1 34) ((2 : Int32)).toNatClampNeg (((s.2.1 34) ((2 : Int32)).toNatClampNeg) + (1 : Int32))) ((0 : Int32)).toNatClampNeg) + (0 : Int32))) ((3 : Int32)).toNatClampNeg (((upd (upd (s.2.1 34) ((2 : Int32)).toNatClampNeg (((s.2.1 34) ((2 : Int32)).toNatClampNeg) + (1 : Int32))) ((0 : Int32)).toNatClampNeg (((upd (s.2.1 34) ((2 : Int32)).toNatClampNeg (((s.2.1 34) ((2 : Int32)).toNatClampNeg) + (1 : Int32))) ((0 : Int32)).toNatClampNeg) + (0 : Int32))) ((3 : Int32)).toNatClampNeg) + (0 : Int32))) ((1 : Int32)).toNatClampNeg) + (0 : Int32)))), rfl, rfl, k⟩
        · have k := k.2 c
          refine Ex.seg hq 3 (j := 45) (L' := [.ref 0, .int p0, .int p1]) (S' := [.int (((upd (upd (upd (s.2.1 34) ((2 : Int32)).toNatClampNeg (((s.2.1 34) ((2 : Int32)).toNatClampNeg) + (1 : Int32))) ((0 : Int32)).toNatClampNeg (((upd (s.2.1 34) ((2 : Int32)).toNatClampNeg (((s.2.1 34) ((2 : Int32)).toNatClampNeg) + (1 : Int32))) ((0 : Int32)).toNatClampNeg) + (0 : Int32))) ((3 : Int32)).toNatClampNeg (((upd (upd (s.2.1 34) ((2 : Int32)).toNatClampNeg (((s.2.1 34) ((2 : Int32)).toNatClampNeg) + (1 : Int32))) ((0 : Int32)).toNatClampNeg (((upd (s.2.1 34) ((2 : Int32)).toNatClampNeg (((s.2.1 34) ((2 : Int32)).toNatClampNeg) + (1 : Int32))) ((0 : Int32)).toNatClampNeg) + (0 : Int32))) ((3 : Int32)).toNatClampNeg) + (0 : Int32))) ((1 : Int32)).toNatClampNeg) + (1 : Int32)), .int (1 : Int32), .ref 34]) (h' := hpS (sA s 34 (upd (upd (upd (s.2.1 34) ((2 : Int32)).toNatClampNeg (((s.2.1 34) ((2 : Int32)).toNatClampNeg) + (1 : Int32))) ((0 : Int32)).toNatClampNeg (((upd (s.2.1 34) ((2 : Int32)).toNatClampNeg (((s.2.1 34) ((2 : Int32)).toNatClampNeg) + (1 : Int32))) ((0 : Int32)).toNatClampNeg) + (0 : Int32))) ((3 : Int32)).toNatClampNeg (((upd (upd (s.2.1 34) ((2 : Int32)).toNatClampNeg (((s.2.1 34) ((2 : Int32)).toNatClampNeg) + (1 : Int32))) ((0 : Int32)).toNatClampNeg (((upd (s.2.1 34) ((2 : Int32)).toNatClampNeg (((s.2.1 34) ((2 : Int32)).toNatClampNeg) + (1 : Int32))) ((0 : Int32)).toNatClampNeg) + (0 : Int32))) ((3 : Int32)).toNatClampNeg) + (0 : Int32))))) rfl ?_
          obtain ⟨hin, k⟩ := k
          refine Ex.ias hq rfl rfl hin (h' := hpS (sA s 34 (upd (upd (upd (upd (s.2.1 34) ((2 : Int32)).toNatClampNeg (((s.2.1 34) ((2 : Int32)).toNatClampNeg) + (1 : Int32))) ((0 : Int32)).toNatClampNeg (((upd (s.2.1 34) ((2 : Int32)).toNatClampNeg (((s.2.1 34) ((2 : Int32)).toNatClampNeg) + (1 : Int32))) ((0 : Int32)).toNatClampNeg) + (0 : Int32))) ((3 : Int32)).toNatClampNeg (((upd (upd (s.2.1 34) ((2 : Int32)).toNatClampNeg (((s.2.1 34) ((2 : Int32)).toNatClampNeg) + (1 : Int32))) ((0 : Int32)).toNatClampNeg (((upd (s.2.1 34) ((2 : Int32)).toNatClampNeg (((s.2.1 34) ((2 : Int32)).toNatClampNeg) + (1 : Int32))) ((0 : Int32)).toNatClampNeg) + (0 : Int32))) ((3 : Int32)).toNatClampNeg) + (0 : Int32))) ((1 : Int32)).toNatClampNeg (((upd (upd (upd (s.2.1 34) ((2 : Int32)).toNatClampNeg (((s.2.1 34) ((2 : Int32)).toNatClampNeg) + (1 : Int32))) ((0 : Int32)).toNatClampNeg (((upd (s.2.1 34) ((2 : Int32)).toNatClampNeg (((s.2.1 34) ((2 : Int32)).toNatClampNeg) + (1 : Int32))) ((0 : Int32)).toNatClampNeg) + (0 : Int32))) ((3 : Int32)).toNatClampNeg (((upd (upd (s.2.1 34) ((2 : Int32)).toNatClampNeg (((s.2.1 34) ((2 : Int32)).toNatClampNeg) + (1 : Int32))) ((0 : Int32)).toNatClampNeg (((upd (s.2.1 34) ((2 : Int32)).toNatClampNeg (((s.2.1 34) ((2 : Int32)).toNatClampNeg) + (1 : Int32))) ((0 : Int32)).toNatClampNeg) + (0 : Int32))) ((3 : Int32)).toNatClampNeg) + (0 : Int32))) ((1 : Int32)).toNatClampNeg) + (1 : Int32))))) (hset_34 _ _) ?_
          exact Ex.rt hq rfl rfl ⟨(sA s 34 (upd (upd (upd (upd (s.2.1 34) ((2 : Int32)).toNatClampNeg (((s.2.1 34) ((2 : Int32)).toNatClampNeg) + (1 : Int32))) ((0 : Int32)).toNatClampNeg (((upd (s.2.1 34) ((2 : Int32)).toNatClampNeg (((s.2.1 34) ((2 : Int32)).toNatClampNeg) + (1 : Int32))) ((0 : Int32)).toNatClampNeg) + (0 : Int32))) ((3 : Int32)).toNatClampNeg (((upd (upd (s.2.1 34) ((2 : Int32)).toNatClampNeg (((s.2.1 34) ((2 : Int32)).toNatClampNeg) + (1 : Int32))) ((0 : Int32)).toNatClampNeg (((upd (s.2.1 34) ((2 : Int32)).toNatClampNeg (((s.2.1 34) ((2 : Int32)).toNatClampNeg) + (1 : Int32))) ((0 : Int32)).toNatClampNeg) + (0 : Int32))) ((3 : Int32)).toNatClampNeg) + (0 : Int32))) ((1 : Int32)).toNatClampNeg (((upd (upd (upd (s.2.1 34) ((2 : Int32)).toNatClampNeg (((s.2.1 34) ((2 : Int32)).toNatClampNeg) + (1 : Int32))) ((0 : Int32)).toNatClampNeg (((upd (s.2.1 34) ((2 : Int32)).toNatClampNeg (((s.2.1 34) ((2 : Int32)).toNatClampNeg) + (1 : Int32))) ((0 : Int32)).toNatClampNeg) + (0 : Int32))) ((3 : Int32)).toNatClampNeg (((upd (upd (s.2.1 34) ((2 : Int32)).toNatClampNeg (((s.2.1 34) ((2 : Int32)).toNatClampNeg) + (1 : Int32))) ((0 : Int32)).toNatClampNeg (((upd (s.2.1 34) ((2 : Int32)).toNatClampNeg (((s.2.1 34) ((2 : Int32)).toNatClampNeg) + (1 : Int32))) ((0 : Int32)).toNatClampNeg) + (0 : Int32))) ((3 : Int32)).toNatClampNeg) + (0 : Int32))) ((1 : Int32)).toNatClampNeg) + (1 : Int32)))), rfl, rfl, k⟩
    · have k := k.2 c
      refine Ex.seg hq 3 (j := 31) (L' := [.ref 0, .int p0, .int p1]) (S' := [.int (((upd (upd (s.2.1 34) ((2 : Int32)).toNatClampNeg (((s.2.1 34) ((2 : Int32)).toNatClampNeg) + (1 : Int32))) ((0 : Int32)).toNatClampNeg (((upd (s.2.1 34) ((2 : Int32)).toNatClampNeg (((s.2.1 34) ((2 : Int32)).toNatClampNeg) + (1 : Int32))) ((0 : Int32)).toNatClampNeg) + (0 : Int32))) ((3 : Int32)).toNatClampNeg) + (1 : Int32)), .int (3 : Int32), .ref 34]) (h' := hpS (sA s 34 (upd (upd (s.2.1 34) ((2 : Int32)).toNatClampNeg (((s.2.1 34) ((2 : Int32)).toNatClampNeg) + (1 : Int32))) ((0 : Int32)).toNatClampNeg (((upd (s.2.1 34) ((2 : Int32)).toNatClampNeg (((s.2.1 34) ((2 : Int32)).toNatClampNeg) + (1 : Int32))) ((0 : Int32)).toNatClampNeg) + (0 : Int32))))) rfl ?_
      obtain ⟨hin, k⟩ := k
      refine Ex.ias hq rfl rfl hin (h' := hpS (sA s 34 (upd (upd (upd (s.2.1 34) ((2 : Int32)).toNatClampNeg (((s.2.1 34) ((2 : Int32)).toNatClampNeg) + (1 : Int32))) ((0 : Int32)).toNatClampNeg (((upd (s.2.1 34) ((2 : Int32)).toNatClampNeg (((s.2.1 34) ((2 : Int32)).toNatClampNeg) + (1 : Int32))) ((0 : Int32)).toNatClampNeg) + (0 : Int32))) ((3 : Int32)).toNatClampNeg (((upd (upd (s.2.1 34) ((2 : Int32)).toNatClampNeg (((s.2.1 34) ((2 : Int32)).toNatClampNeg) + (1 : Int32))) ((0 : Int32)).toNatClampNeg (((upd (s.2.1 34) ((2 : Int32)).toNatClampNeg (((s.2.1 34) ((2 : Int32)).toNatClampNeg) + (1 : Int32))) ((0 : Int32)).toNatClampNeg) + (0 : Int32))) ((3 : Int32)).toNatClampNeg) + (1 : Int32))))) (hset_34 _ _) ?_
      refine Ex.seg hq 4 (j := 36) (L' := [.ref 0, .int p0, .int p1]) (S' := [.int (1 : Int32), .ref 34, .int (1 : Int32), .ref 34]) (h' := hpS (sA s 34 (upd (upd (upd (s.2.1 34) ((2 : Int32)).toNatClampNeg (((s.2.1 34) ((2 : Int32)).toNatClampNeg) + (1 : Int32))) ((0 : Int32)).toNatClampNeg (((upd (s.2.1 34) ((2 : Int32)).toNatClampNeg (((s.2.1 34) ((2 : Int32)).toNatClampNeg) + (1 : Int32))) ((0 : Int32)).toNatClampNeg) + (0 : Int32))) ((3 : Int32)).toNatClampNeg (((upd (upd (s.2.1 34) ((2 : Int32)).toNatClampNeg (((s.2.1 34) ((2 : Int32)).toNatClampNeg) + (1 : Int32))) ((0 : Int32)).toNatClampNeg (((upd (s.2.1 34) ((2 : Int32)).toNatClampNeg (((s.2.1 34) ((2 : Int32)).toNatClampNeg) + (1 : Int32))) ((0 : Int32)).toNatClampNeg) + (0 : Int32))) ((3 : Int32)).toNatClampNeg) + (1 : Int32))))) rfl ?_
      obtain ⟨hin, k⟩ := k
      refine Ex.ial hq rfl rfl hin ?_
      refine Ex.seg hq 1 (j := 38) (L' := [.ref 0, .int p0, .int p1]) (S' := [.int p0, .int ((upd (upd (upd (s.2.1 34) ((2 : Int32)).toNatClampNeg (((s.2.1 34) ((2 : Int32)).toNatClampNeg) + (1 : Int32))) ((0 : Int32)).toNatClampNeg (((upd (s.2.1 34) ((2 : Int32)).toNatClampNeg (((s.2.1 34) ((2 : Int32)).toNatClampNeg) + (1 : Int32))) ((0 : Int32)).toNatClampNeg) + (0 : Int32))) ((3 : Int32)).toNatClampNeg (((upd (upd (s.2.1 34) ((2 : Int32)).toNatClampNeg (((s.2.1 34) ((2 : Int32)).toNatClampNeg) + (1 : Int32))) ((0 : Int32)).toNatClampNeg (((upd (s.2.1 34) ((2 : Int32)).toNatClampNeg (((s.2.1 34) ((2 : Int32)).toNatClampNeg) + (1 : Int32))) ((0 : Int32)).toNatClampNeg) + (0 : Int32))) ((3 : Int32)).toNatClampNeg) + (1 : Int32))) ((1 : Int32)).toNatClampNeg), .int (1 : Int32), .ref 34]) (h' := hpS (sA s 34 (upd (upd (upd (s.2.1 34) ((2 : Int32)).toNatClampNeg (((s.2.1 34) ((2 : Int32)).toNatClampNeg) + (1 : Int32))) ((0 : Int32)).toNatClampNeg (((upd (s.2.1 34) ((2 : Int32)).toNatClampNeg (((s.2.1 34) ((2 : Int32)).toNatClampNeg) + (1 : Int32))) ((0 : Int32)).toNatClampNeg) + (0 : Int32))) ((3 : Int32)).toNatClampNeg (((upd (upd (s.2.1 34) ((2 : Int32)).toNatClampNeg (((s.2.1 34) ((2 : Int32)).toNatClampNeg) + (1 : Int32))) ((0 : Int32)).toNatClampNeg (((upd (s.2.1 34) ((2 : Int32)).toNatClampNeg (((s.2.1 34) ((2 : Int32)).toNatClampNeg) + (1 : Int32))) ((0 : Int32)).toNatClampNeg) + (0 : Int32))) ((3 : Int32)).toNatClampNeg) + (1 : Int32))))) rfl ?_
      refine Ex.i1 hq rfl (fun c => ?_) (fun c => ?_)
      · have k := k.1 c
        refine Ex.seg hq 2 (j := 45) (L' := [.ref 0, .int p0, .int p1]) (S' := [.int (((upd (upd (upd (s.2.1 34) ((2 : Int32)).toNatClampNeg (((s.2.1 34) ((2 : Int32)).toNatClampNeg) + (1 : Int32))) ((0 : Int32)).toNatClampNeg (((upd (s.2.1 34) ((2 : Int32)).toNatClampNeg (((s.2.1 34) ((2 : Int32)).toNatClampNeg) + (1 : Int32))) ((0 : Int32)).toNatClampNeg) + (0 : Int32))) ((3 : Int32)).toNatClampNeg (((upd (upd (s.2.1 34) ((2 : Int32)).toNatClampNeg (((s.2.1 34) ((2 : Int32)).toNatClampNeg) + (1 : Int32))) ((0 : Int32)).toNatClampNeg (((upd (s.2.1 34) ((2 : Int32)).toNatClampNeg (((s.2.1 34) ((2 : Int32)).toNatClampNeg) + (1 : Int32))) ((0 : Int32)).toNatClampNeg) + (0 : Int32))) ((3 : Int32)).toNatClampNeg) + (1 : Int32))) ((1 : Int32)).toNatClampNeg) + (0 : Int32)), .int (1 : Int32), .ref 34]) (h' := hpS (sA s 34 (upd (upd (upd (s.2.1 34) ((2 : Int32)).toNatClampNeg (((s.2.1 34) ((2 : Int32)).toNatClampNeg) + (1 : Int32))) ((0 : Int32)).toNatClampNeg (((upd (s.2.1 34) ((2 : Int32)).toNatClampNeg (((s.2.1 34) ((2 : Int32)).toNatClampNeg) + (1 : Int32))) ((0 : Int32)).toNatClampNeg) + (0 : Int32))) ((3 : Int32)).toNatClampNeg (((upd (upd (s.2.1 34) ((2 : Int32)).toNatClampNeg (((s.2.1 34) ((2 : Int32)).toNatClampNeg) + (1 : Int32))) ((0 : Int32)).toNatClampNeg (((upd (s.2.1 34) ((2 : Int32)).toNatClampNeg (((s.2.1 34) ((2 : Int32)).toNatClampNeg) + (1 : Int32))) ((0 : Int32)).toNatClampNeg) + (0 : Int32))) ((3 : Int32)).toNatClampNeg) + (1 : Int32))))) rfl ?_
        obtain ⟨hin, k⟩ := k
        refine Ex.ias hq rfl rfl hin (h' := hpS (sA s 34 (upd (upd (upd (upd (s.2.1 34) ((2 : Int32)).toNatClampNeg (((s.2.1 34) ((2 : Int32)).toNatClampNeg) + (1 : Int32))) ((0 : Int32)).toNatClampNeg (((upd (s.2.1 34) ((2 : Int32)).toNatClampNeg (((s.2.1 34) ((2 : Int32)).toNatClampNeg) + (1 : Int32))) ((0 : Int32)).toNatClampNeg) + (0 : Int32))) ((3 : Int32)).toNatClampNeg (((upd (upd (s.2.1 34) ((2 : Int32)).toNatClampNeg (((s.2.1 34) ((2 : Int32)).toNatClampNeg) + (1 : Int32))) ((0 : Int32)).toNatClampNeg (((upd (s.2.1 34) ((2 : Int32)).toNatClampNeg (((s.2.1 34) ((2 : Int32)).toNatClampNeg) + (1 : Int32))) ((0 : Int32)).toNatClampNeg) + (0 : Int32))) ((3 : Int32)).toNatClampNeg) + (1 : Int32))) ((1 : Int32)).toNatClampNeg (((upd (upd (upd (s.2.1 34) ((2 : Int32)).toNatClampNeg (((s.2.1 34) ((2 : Int32)).toNatClampNeg) + (1 : Int32))) ((0 : Int32)).toNatClampNeg (((upd (s.2.1 34) ((2 : Int32)).toNatClampNeg (((s.2.1 34) ((2 : Int32)).toNatClampNeg) + (1 : Int32))) ((0 : Int32)).toNatClampNeg) + (0 : Int32))) ((3 : Int32)).toNatClampNeg (((upd (upd (s.2.1 34) ((2 : Int32)).toNatClampNeg (((s.2.1 34) ((2 : Int32)).toNatClampNeg) + (1 : Int32))) ((0 : Int32)).toNatClampNeg (((upd (s.2.1 34) ((2 : Int32)).toNatClampNeg (((s.2.1 34) ((2 : Int32)).toNatClampNeg) + (1 : Int32))) ((0 : Int32)).toNatClampNeg) + (0 : Int32))) ((3 : Int32)).toNatClampNeg) + (1 : Int32))) ((1 : Int32)).toNatClampNeg) + (0 : Int32))))) (hset_34 _ _) ?_
        exact Ex.rt hq rfl rfl ⟨(sA s 34 (upd (upd (upd (upd (s.2.1 34) ((2 : Int32)).toNatClampNeg (((s.2.1 34) ((2 : Int32)).toNatClampNeg) + (1 : Int32))) ((0 : Int32)).toNatClampNeg (((upd (s.2.1 34) ((2 : Int32)).toNatClampNeg (((s.2.1 34) ((2 : Int32)).toNatClampNeg) + (1 : Int32))) ((0 : Int32)).toNatClampNeg) + (0 : Int32))) ((3 : Int32)).toNatClampNeg (((upd (upd (s.2.1 34) ((2 : Int32)).toNatClampNeg (((s.2.1 34) ((2 : Int32)).toNatClampNeg) + (1 : Int32))) ((0 : Int32)).toNatClampNeg (((upd (s.2.1 34) ((2 : Int32)).toNatClampNeg (((s.2.1 34) ((2 : Int32)).toNatClampNeg) + (1 : Int32))) ((0 : Int32)).toNatClampNeg) + (0 : Int32))) ((3 : Int32)).toNatClampNeg) + (1 : Int32))) ((1 : Int32)).toNatClampNeg (((upd (upd (upd (s.2.1 34) ((2 : Int32)).toNatClampNeg (((s.2.1 34) ((2 : Int32)).toNatClampNeg) + (1 : Int32))) ((0 : Int32)).toNatClampNeg (((upd (s.2.1 34) ((2 : Int32)).toNatClampNeg (((s.2.1 34) ((2 : Int32)).toNatClampNeg) + (1 : Int32))) ((0 : Int32)).toNatClampNeg) + (0 : Int32))) ((3 : Int32)).toNatClampNeg (((upd (upd (s.2.1 34) ((2 : Int32)).toNatClampNeg (((s.2.1 34) ((2 : Int32)).toNatClampNeg) + (1 : Int32))) ((0 : Int32)).toNatClampNeg (((upd (s.2.1 34) ((2 : Int32)).toNatClampNeg (((s.2.1 34) ((2 : Int32)).toNatClampNeg) + (1 : Int32))) ((0 : Int32)).toNatClampNeg) + (0 : Int32))) ((3 : Int32)).toNatClampNeg) + (1 : Int32))) ((1 : Int32)).toNatClampNeg) + (0 : Int32)))), rfl, rfl, k⟩
      · have k := k.2 c
        refine Ex.seg hq 1 (j := 40) (L' := [.ref 0, .int p0, .int p1]) (S' := [.int p1, .int ((upd (upd (upd (s.2.1 34) ((2 : Int32)).toNatClampNeg (((s.2.1 34) ((2 : Int32)).toNatClampNeg) + (1 : Int32))) ((0 : Int32)).toNatClampNeg (((upd (s.2.1 34) ((2 : Int32)).toNatClampNeg (((s.2.1 34) ((2 : Int32)).toNatClampNeg) + (1 : Int32))) ((0 : Int32)).toNatClampNeg) + (0 : Int32))) ((3 : Int32)).toNatClampNeg (((upd (upd (s.2.1 34) ((2 : Int32)).toNatClampNeg (((s.2.1 34) ((2 : Int32)).toNatClampNeg) + (1 : Int32))) ((0 : Int32)).toNatClampNeg (((upd (s.2.1 34) ((2 : Int32)).toNatClampNeg (((s.2.1 34) ((2 : Int32)).toNatClampNeg) + (1 : Int32))) ((0 : Int32)).toNatClampNeg) + (0 : Int32))) ((3 : Int32)).toNatClampNeg) + (1 : Int32))) ((1 : Int32)).toNatClampNeg), .int (1 : Int32), .ref 34]) (h' := hpS (sA s 34 (upd (upd (upd (s.2.1 34) ((2 : Int32)).toNatClampNeg (((s.2.1 34) ((2 : Int32)).toNatClampNeg) + (1 : Int32))) ((0 : Int32)).toNatClampNeg (((upd (s.2.1 34) ((2 : Int32)).toNatClampNeg (((s.2.1 34) ((2 : Int32)).toNatClampNeg) + (1 : Int32))) ((0 : Int32)).toNatClampNeg) + (0 : Int32))) ((3 : Int32)).toNatClampNeg (((upd (upd (s.2.1 34) ((2 : Int32)).toNatClampNeg (((s.2.1 34) ((2 : Int32)).toNatClampNeg) + (1 : Int32))) ((0 : Int32)).toNatClampNeg (((upd (s.2.1 34) ((2 : Int32)).toNatClampNeg (((s.2.1 34) ((2 : Int32)).toNatClampNeg) + (1 : Int32))) ((0 : Int32)).toNatClampNeg) + (0 : Int32))) ((3 : Int32)).toNatClampNeg) + (1 : Int32))))) rfl ?_
        refine Ex.i1 hq rfl (fun c => ?_) (fun c => ?_)
        · have k := k.1 c
          refine Ex.seg hq 2 (j := 45) (L' := [.ref 0, .int p0, .int p1]) (S' := [.int (((upd (upd (upd (s.2.1 34) ((2 : Int32)).toNatClampNeg (((s.2.1 34) ((2 : Int32)).toNatClampNeg) + (1 : Int32))) ((0 : Int32)).toNatClampNeg (((upd (s.2.1 34) ((2 : Int32)).toNatClampNeg (((s.2.1 34) ((2 : Int32)).toNatClampNeg) + (1 : Int32))) ((0 : Int32)).toNatClampNeg) + (0 : Int32))) ((3 : Int32)).toNatClampNeg (((upd (upd (s.2.1 34) ((2 : Int32)).toNatClampNeg (((s.2.1 34) ((2 : Int32)).toNatClampNeg) + (1 : Int32))) ((0 : Int32)).toNatClampNeg (((upd (s.2.1 34) ((2 : Int32)).toNatClampNeg (((s.2.1 34) ((2 : Int32)).toNatClampNeg) + (1 : Int32))) ((0 : Int32)).toNatClampNeg) + (0 : Int32))) ((3 : Int32)).toNatClampNeg) + (1 : Int32))) ((1 : Int32)).toNatClampNeg) + (0 : Int32)), .int (1 : Int32), .ref 34]) (h' := hpS (sA s 34 (upd (upd (upd (s.2.1 34) ((2 : Int32)).toNatClampNeg (((s.2.1 34) ((2 : Int32)).toNatClampNeg) + (1 : Int32))) ((0 : Int32)).toNatClampNeg (((upd (s.2.1 34) ((2 : Int32)).toNatClampNeg (((s.2.1 34) ((2 : Int32)).toNatClampNeg) + (1 : Int32))) ((0 : Int32)).toNatClampNeg) + (0 : Int32))) ((3 : Int32)).toNatClampNeg (((upd (upd (s.2.1 34) ((2 : Int32)).toNatClampNeg (((s.2.1 34) ((2 : Int32)).toNatClampNeg) + (1 : Int32))) ((0 : Int32)).toNatClampNeg (((upd (s.2.1 34) ((2 : Int32)).toNatClampNeg (((s.2.1 34) ((2 : Int32)).toNatClampNeg) + (1 : Int32))) ((0 : Int32)).toNatClampNeg) + (0 : Int32))) ((3 : Int32)).toNatClampNeg) + (1 : Int32))))) rfl ?_
          obtain ⟨hin, k⟩ := k
          refine Ex.ias hq rfl rfl hin (h' := hpS (sA s 34 (upd (upd (upd (upd (s.2.1 34) ((2 : Int32)).toNatClampNeg (((s.2.1 34) ((2 : Int32)).toNatClampNeg) + (1 : Int32))) ((0 : Int32)).toNatClampNeg (((upd (s.2.1 34) ((2 : Int32)).toNatClampNeg (((s.2.1 34) ((2 : Int32)).toNatClampNeg) + (1 : Int32))) ((0 : Int32)).toNatClampNeg) + (0 : Int32))) ((3 : Int32)).toNatClampNeg (((upd (upd (s.2.1 34) ((2 : Int32)).toNatClampNeg (((s.2.1 34) ((2 : Int32)).toNatClampNeg) + (1 : Int32))) ((0 : Int32)).toNatClampNeg (((upd (s.2.1 34) ((2 : Int32)).toNatClampNeg (((s.2.1 34) ((2 : Int32)).toNatClampNeg) + (1 : Int32))) ((0 : Int32)).toNatClampNeg) + (0 : Int32))) ((3 : Int32)).toNatClampNeg) + (1 : Int32))) ((1 : Int32)).toNatClampNeg (((upd (upd (upd (s.2.1 34) ((2 : Int32)).toNatClampNeg (((s.2.1 34) ((2 : Int32)).toNatClampNeg) + (1 : Int32))) ((0 : Int32)).toNatClampNeg (((upd (s.2.1 34) ((2 : Int32)).toNatClampNeg (((s.2.1 34) ((2 : Int32)).toNatClampNeg) + (1 : Int32))) ((0 : Int32)).toNatClampNeg) + (0 : Int32))) ((3 : Int32)).toNatClampNeg (((upd (upd (s.2.1 34) ((2 : Int32)).toNatClampNeg (((s.2.1 34) ((2 : Int32)).toNatClampNeg) + (1 : Int32))) ((0 : Int32)).toNatClampNeg (((upd (s.2.1 34) ((2 : Int32)).toNatClampNeg (((s.2.1 34) ((2 : Int32)).toNatClampNeg) + (1 : Int32))) ((0 : Int32)).toNatClampNeg) + (0 : Int32))) ((3 : Int32)).toNatClampNeg) + (1 : Int32))) ((1 : Int32)).toNatClampNeg) + (0 : Int32))))) (hset_34 _ _) ?_
          exact Ex.rt hq rfl rfl ⟨(sA s 34 (upd (upd (upd (upd (s.2.1 34) ((2 : Int32)).toNatClampNeg (((s.2.1 34) ((2 : Int32)).toNatClampNeg) + (1 : Int32))) ((0 : Int32)).toNatClampNeg (((upd (s.2.1 34) ((2 : Int32)).toNatClampNeg (((s.2.1 34) ((2 : Int32)).toNatClampNeg) + (1 : Int32))) ((0 : Int32)).toNatClampNeg) + (0 : Int32))) ((3 : Int32)).toNatClampNeg (((upd (upd (s.2.1 34) ((2 : Int32)).toNatClampNeg (((s.2.1 34) ((2 : Int32)).toNatClampNeg) + (1 : Int32))) ((0 : Int32)).toNatClampNeg (((upd (s.2.1 34) ((2 : Int32)).toNatClampNeg (((s.2.1 34) ((2 : Int32)).toNatClampNeg) + (1 : Int32))) ((0 : Int32)).toNatClampNeg) + (0 : Int32))) ((3 : Int32)).toNatClampNeg) + (1 : Int32))) ((1 : Int32)).toNatClampNeg (((upd (upd (upd (s.2.1 34) ((2 : Int32)).toNatClampNeg (((s.2.1 34) ((2 : Int32)).toNatClampNeg) + (1 : Int32))) ((0 : Int32)).toNatClampNeg (((upd (s.2.1 34) ((2 : Int32)).toNatClampNeg (((s.2.1 34) ((2 : Int32)).toNatClampNeg) + (1 : Int32))) ((0 : Int32)).toNatClampNeg) + (0 : Int32))) ((3 : Int32)).toNatClampNeg (((upd (upd (s.2.1 34) ((2 : Int32)).toNatClampNeg (((s.2.1 34) ((2 : Int32)).toNatClampNeg) + (1 : Int32))) ((0 : Int32)).toNatClampNeg (((upd (s.2.1 34) ((2 : Int32)).toNatClampNeg (((s.2.1 34) ((2 : Int32)).toNatClampNeg) + (1 : Int32))) ((0 : Int32)).toNatClampNeg) + (0 : Int32))) ((3 : Int32)).toNatClampNeg) + (1 : Int32))) ((1 : Int32)).toNatClampNeg) + (0 : Int32)))), rfl, rfl, k⟩
        · have k := k.2 c
          refine Ex.seg hq 3 (j := 45) (L' := [.ref 0, .int p0, .int p1]) (S' := [.int (((upd (upd (upd (s.2.1 34) ((2 : Int32)).toNatClampNeg (((s.2.1 34) ((2 : Int32)).toNatClampNeg) + (1 : Int32))) ((0 : Int32)).toNatClampNeg (((upd (s.2.1 34) ((2 : Int32)).toNatClampNeg (((s.2.1 34) ((2 : Int32)).toNatClampNeg) + (1 : Int32))) ((0 : Int32)).toNatClampNeg) + (0 : Int32))) ((3 : Int32)).toNatClampNeg (((upd (upd (s.2.1 34) ((2 : Int32)).toNatClampNeg (((s.2.1 34) ((2 : Int32)).toNatClampNeg) + (1 : Int32))) ((0 : Int32)).toNatClampNeg (((upd (s.2.1 34) ((2 : Int32)).toNatClampNeg (((s.2.1 34) ((2 : Int32)).toNatClampNeg) + (1 : Int32))) ((0 : Int32)).toNatClampNeg) + (0 : Int32))) ((3 : Int32)).toNatClampNeg) + (1 : Int32))) ((1 : Int32)).toNatClampNeg) + (1 : Int32)), .int (1 : Int32), .ref 34]) (h' := hpS (sA s 34 (upd (upd (upd (s.2.1 34) ((2 : Int32)).toNatClampNeg (((s.2.1 34) ((2 : Int32)).toNatClampNeg) + (1 : Int32))) ((0 : Int32)).toNatClampNeg (((upd (s.2.1 34) ((2 : Int32)).toNatClampNeg (((s.2.1 34) ((2 : Int32)).toNatClampNeg) + (1 : Int32))) ((0 : Int32)).toNatClampNeg) + (0 : Int32))) ((3 : Int32)).toNatClampNeg (((upd (upd (s.2.1 34) ((2 : Int32)).toNatClampNeg (((s.2.1 34) ((2 : Int32)).toNatClampNeg) + (1 : Int32))) ((0 : Int32)).toNatClampNeg (((upd (s.2.1 34) ((2 : Int32)).toNatClampNeg (((s.2.1 34) ((2 : Int32)).toNatClampNeg) + (1 : Int32))) ((0 : Int32)).toNatClampNeg) + (0 : Int32))) ((3 : Int32)).toNatClampNeg) + (1 : Int32))))) rfl ?_
          obtain ⟨hin, k⟩ := k
          refine Ex.ias hq rfl rfl hin (h' := hpS (sA s 34 (upd (upd (upd (upd (s.2.1 34) ((2 : Int32)).toNatClampNeg (((s.2.1 34) ((2 : Int32)).toNatClampNeg) + (1 : Int32))) ((0 : Int32)).toNatClampNeg (((upd (s.2.1 34) ((2 : Int32)).toNatClampNeg (((s.2.1 34) ((2 : Int32)).toNatClampNeg) + (1 : Int32))) ((0 : Int32)).toNatClampNeg) + (0 : Int32))) ((3 : Int32)).toNatClampNeg (((upd (upd (s.2.1 34) ((2 : Int32)).toNatClampNeg (((s.2.1 34) ((2 : Int32)).toNatClampNeg) + (1 : Int32))) ((0 : Int32)).toNatClampNeg (((upd (s.2.1 34) ((2 : Int32)).toNatClampNeg (((s.2.1 34) ((2 : Int32)).toNatClampNeg) + (1 : Int32))) ((0 : Int32)).toNatClampNeg) + (0 : Int32))) ((3 : Int32)).toNatClampNeg) + (1 : Int32))) ((1 : Int32)).toNatClampNeg (((upd (upd (upd (s.2.1 34) ((2 : Int32)).toNatClampNeg (((s.2.1 34) ((2 : Int32)).toNatClampNeg) + (1 : Int32))) ((0 : Int32)).toNatClampNeg (((upd (s.2.1 34) ((2 : Int32)).toNatClampNeg (((s.2.1 34) ((2 : Int32)).toNatClampNeg) + (1 : Int32))) ((0 : Int32)).toNatClampNeg) + (0 : Int32))) ((3 : Int32)).toNatClampNeg (((upd (upd (s.2.1 34) ((2 : Int32)).toNatClampNeg (((s.2.1 34) ((2 : Int32)).toNatClampNeg) + (1 : Int32))) ((0 : Int32)).toNatClampNeg (((upd (s.2.1 34) ((2 : Int32)).toNatClampNeg (((s.2.1 34) ((2 : Int32)).toNatClampNeg) + (1 : Int32))) ((0 : Int32)).toNatClampNeg) + (0 : Int32))) ((3 : Int32)).toNatClampNeg) + (1 : Int32))) ((1 : Int32)).toNatClampNeg) + (1 : Int32))))) (hset_34 _ _) ?_
          exact Ex.rt hq rfl rfl ⟨(sA s 34 (upd (upd (upd (upd (s.2.1 34) ((2 : Int32)).toNatClampNeg (((s.2.1 34) ((2 : Int32)).toNatClampNeg) + (1 : Int32))) ((0 : Int32)).toNatClampNeg (((upd (s.2.1 34) ((2 : Int32)).toNatClampNeg (((s.2.1 34) ((2 : Int32)).toNatClampNeg) + (1 : Int32))) ((0 : Int32)).toNatClampNeg) + (0 : Int32))) ((3 : Int32)).toNatClampNeg (((upd (upd (s.2.1 34) ((2 : Int32)).toNatClampNeg (((s.2.1 34) ((2 : Int32)).toNatClampNeg) + (1 : Int32))) ((0 : Int32)).toNatClampNeg (((upd (s.2.1 34) ((2 : Int32)).toNatClampNeg (((s.2.1 34) ((2 : Int32)).toNatClampNeg) + (1 : Int32))) ((0 : Int32)).toNatClampNeg) + (0 : Int32))) ((3 : Int32)).toNatClampNeg) + (1 : Int32))) ((1 : Int32)).toNatClampNeg (((upd (upd (upd (s.2.1 34) ((2 : Int32)).toNatClampNeg (((s.2.1 34) ((2 : Int32)).toNatClampNeg) + (1 : Int32))) ((0 : Int32)).toNatClampNeg (((upd (s.2.1 34) ((2 : Int32)).toNatClampNeg (((s.2.1 34) ((2 : Int32)).toNatClampNeg) + (1 : Int32))) ((0 : Int32)).toNatClampNeg) + (0 : Int32))) ((3 : Int32)).toNatClampNeg (((upd (upd (s.2.1 34) ((2 : Int32)).toNatClampNeg (((s.2.1 34) ((2 : Int32)).toNatClampNeg) + (1 : Int32))) ((0 : Int32)).toNatClampNeg (((upd (s.2.1 34) ((2 : Int32)).toNatClampNeg (((s.2.1 34) ((2 : Int32)).toNatClampNeg) + (1 : Int32))) ((0 : Int32)).toNatClampNeg) + (0 : Int32))) ((3 : Int32)).toNatClampNeg) + (1 : Int32))) ((1 : Int32)).toNatClampNeg) + (1 : Int32)))), rfl, rfl, k⟩
  · have k := k.2 c
    refine Ex.seg hq 3 (j := 19) (L' := [.ref 0, .int p0, .int p1]) (S' := [.int (((upd (s.2.1 34) ((2 : Int32)).toNatClampNeg (((s.2.1 34) ((2 : Int32)).toNatClampNeg) + (1 : Int32))) ((0 : Int32)).toNatClampNeg) + (1 : Int32)), .int (0 : Int32), .ref 34]) (h' := hpS (sA s 34 (upd (s.2.1 34) ((2 : Int32)).toNatClampNeg (((s.2.1 34) ((2 : Int32)).toNatClampNeg) + (1 : Int32))))) rfl ?_
    obtain ⟨hin, k⟩ := k
    refine Ex.ias hq rfl rfl hin (h' := hpS (sA s 34 (upd (upd (s.2.1 34) ((2 : Int32)).toNatClampNeg (((s.2.1 34) ((2 : Int32)).toNatClampNeg) + (1 : Int32))) ((0 : Int32)).toNatClampNeg (((upd (s.2.1 34) ((2 : Int32)).toNatClampNeg (((s.2.1 34) ((2 : Int32)).toNatClampNeg) + (1 : Int32))) ((0 : Int32)).toNatClampNeg) + (1 : Int32))))) (hset_34 _ _) ?_
    refine Ex.seg hq 4 (j := 24) (L' := [.ref 0, .int p0, .int p1]) (S' := [.int (3 : Int32), .ref 34, .int (3 : Int32), .ref 34]) (h' := hpS (sA s 34 (upd (upd (s.2.1 34) ((2 : Int32)).toNatClampNeg (((s.2.1 34) ((2 : Int32)).toNatClampNeg) + (1 : Int32))) ((0 : Int32)).toNatClampNeg (((upd (s.2.1 34) ((2 : Int32)).toNatClampNeg (((s.2.1 34) ((2 : Int32)).toNatClampNeg) + (1 : Int32))) ((0 : Int32)).toNatClampNeg) + (1 : Int32))))) rfl ?_
    obtain ⟨hin, k⟩ := k
    refine Ex.ial hq rfl rfl hin ?_
    refine Ex.seg hq 1 (j := 26) (L' := [.ref 0, .int p0, .int p1]) (S' := [.int p1, .int ((upd (upd (s.2.1 34) ((2 : Int32)).toNatClampNeg (((s.2.1 34) ((2 : Int32)).toNatClampNeg) + (1 : Int32))) ((0 : Int32)).toNatClampNeg (((upd (s.2.1 34) ((2 : Int32)).toNatClampNeg (((s.2.1 34) ((2 : Int32)).toNatClampNeg) + (1 : Int32))) ((0 : Int32)).toNatClampNeg) + (1 : Int32))) ((3 : Int32)).toNatClampNeg), .int (3 : Int32), .ref 34]) (h' := hpS (sA s 34 (upd (upd (s.2.1 34) ((2 : Int32)).toNatClampNeg (((s.2.1 34) ((2 : Int32)).toNatClampNeg) + (1 : Int32))) ((0 : Int32)).toNatClampNeg (((upd (s.2.1 34) ((2 : Int32)).toNatClampNeg (((s.2.1 34) ((2 : Int32)).toNatClampNeg) + (1 : Int32))) ((0 : Int32)).toNatClampNeg) + (1 : Int32))))) rfl ?_
    refine Ex.i1 hq rfl (fun c => ?_) (fun c => ?_)
    · have k := k.1 c
      refine Ex.seg hq 2 (j := 31) (L' := [.ref 0, .int p0, .int p1]) (S' := [.int (((upd (upd (s.2.1 34) ((2 : Int32)).toNatClampNeg (((s.2.1 34) ((2 : Int32)).toNatClampNeg) + (1 : Int32))) ((0 : Int32)).toNatClampNeg (((upd (s.2.1 34) ((2 : Int32)).toNatClampNeg (((s.2.1 34) ((2 : Int32)).toNatClampNeg) + (1 : Int32))) ((0 : Int32)).toNatClampNeg) + (1 : Int32))) ((3 : Int32)).toNatClampNeg) + (0 : Int32)), .int (3 : Int32), .ref 34]) (h' := hpS (sA s 34 (upd (upd (s.2.1 34) ((2 : Int32)).toNatClampNeg (((s.2.1 34) ((2 : Int32)).toNatClampNeg) + (1 : Int32))) ((0 : Int32)).toNatClampNeg (((upd (s.2.1 34) ((2 : Int32)).toNatClampNeg (((s.2.1 34) ((2 : Int32)).toNatClampNeg) + (1 : Int32))) ((0 : Int32)).toNatClampNeg) + (1 : Int32))))) rfl ?_
      obtain ⟨hin, k⟩ := k
      refine Ex.ias hq rfl rfl hin (h' := hpS (sA s 34 (upd (upd (upd (s.2.1 34) ((2 : Int32)).toNatClampNeg (((s.2.1 34) ((2 : Int32)).toNatClampNeg) + (1 : Int32))) ((0 : Int32)).toNatClampNeg (((upd (s.2.1 34) ((2 : Int32)).toNatClampNeg (((s.2.1 34) ((2 : Int32)).toNatClampNeg) + (1 : Int32))) ((0 : Int32)).toNatClampNeg) + (1 : Int32))) ((3 : Int32)).toNatClampNeg (((upd (upd (s.2.1 34) ((2 : Int32)).toNatClampNeg (((s.2.1 34) ((2 : Int32)).toNatClampNeg) + (1 : Int32))) ((0 : Int32)).toNatClampNeg (((upd (s.2.1 34) ((2 : Int32)).toNatClampNeg (((s.2.1 34) ((2 : Int32)).toNatClampNeg) + (1 : Int32))) ((0 : Int32)).toNatClampNeg) + (1 : Int32))) ((3 : Int32)).toNatClampNeg) + (0 : Int32))))) (hset_34 _ _) ?_
      refine Ex.seg hq 4 (j := 36) (L' := [.ref 0, .int p0, .int p1]) (S' := [.int (1 : Int32), .ref 34, .int (1 : Int32), .ref 34]) (h' := hpS (sA s 34 (upd (upd (upd (s.2.1 34) ((2 : Int32)).toNatClampNeg (((s.2.1 34) ((2 : Int32)).toNatClampNeg) + (1 : Int32))) ((0 : Int32)).toNatClampNeg (((upd (s.2.1 34) ((2 : Int32)).toNatClampNeg (((s.2.1 34) ((2 : Int32)).toNatClampNeg) + (1 : Int32))) ((0 : Int32)).toNatClampNeg) + (1 : Int32))) ((3 : Int32)).toNatClampNeg (((upd (upd (s.2.1 34) ((2 : Int32)).toNatClampNeg (((s.2.1 34) ((2 : Int32)).toNatClampNeg) + (1 : Int32))) ((0 : Int32)).toNatClampNeg (((upd (s.2.1 34) ((2 : Int32)).toNatClampNeg (((s.2.1 34) ((2 : Int32)).toNatClampNeg) + (1 : Int32))) ((0 : Int32)).toNatClampNeg) + (1 : Int32))) ((3 : Int32)).toNatClampNeg) + (0 : Int32))))) rfl ?_
      obtain ⟨hin, k⟩ := k
      refine Ex.ial hq rfl rfl hin ?_
      refine Ex.seg hq 1 (j := 38) (L' := [.ref 0, .int p0, .int p1]) (S' := [.int p0, .int ((upd (upd (upd (s.2.1 34) ((2 : Int32)).toNatClampNeg (((s.2.1 34) ((2 : Int32)).toNatClampNeg) + (1 : Int32))) ((0 : Int32)).toNatClampNeg (((upd (s.2.1 34) ((2 : Int32)).toNatClampNeg (((s.2.1 34) ((2 : Int32)).toNatClampNeg) + (1 : Int32))) ((0 : Int32)).toNatClampNeg) + (1 : Int32))) ((3 : Int32)).toNatClampNeg (((upd (upd (s.2.1 34) ((2 : Int32)).toNatClampNeg (((s.2.1 34) ((2 : Int32)).toNatClampNeg) + (1 : Int32))) ((0 : Int32)).toNatClampNeg (((upd (s.2.1 34) ((2 : Int32)).toNatClampNeg (((s.2.1 34) ((2 : Int32)).toNatClampNeg) + (1 : Int32))) ((0 : Int32)).toNatClampNeg) + (1 : Int32))) ((3 : Int32)).toNatClampNeg) + (0 : Int32))) ((1 : Int32)).toNatClampNeg), .int (1 : Int32), .ref 34]) (h' := hpS (sA s 34 (upd (upd (upd (s.2.1 34) ((2 : Int32)).toNatClampNeg (((s.2.1 34) ((2 : Int32)).toNatClampNeg) + (1 : Int32))) ((0 : Int32)).toNatClampNeg (((upd (s.2.1 34) ((2 : Int32)).toNatClampNeg (((s.2.1 34) ((2 : Int32)).toNatClampNeg) + (1 : Int32))) ((0 : Int32)).toNatClampNeg) + (1 : Int32))) ((3 : Int32)).toNatClampNeg (((upd (upd (s.2.1 34) ((2 : Int32)).toNatClampNeg (((s.2.1 34) ((2 : Int32)).toNatClampNeg) + (1 : Int32))) ((0 : Int32)).toNatClampNeg (((upd (s.2.1 34) ((2 : Int32)).toNatClampNeg (((s.2.1 34) ((2 : Int32)).toNatClampNeg) + (1 : Int32))) ((0 : Int32)).toNatClampNeg) + (1 : Int32))) ((3 : Int32)).toNatClampNeg) + (0 : Int32))))) rfl ?_
      refine Ex.i1 hq rfl (fun c => ?_) (fun c => ?_)
      · have k := k.1 c
        refine Ex.seg hq 2 (j := 45) (L' := [.ref 0, .int p0, .int p1]) (S' := [.int (((upd (upd (upd (s.2.1 34) ((2 : Int32)).toNatClampNeg (((s.2.1 34) ((2 : Int32)).toNatClampNeg) + (1 : Int32))) ((0 : Int32)).toNatClampNeg (((upd (s.2.1 34) ((2 : Int32)).toNatClampNeg (((s.2.1 34) ((2 : Int32)).toNatClampNeg) + (1 : Int32))) ((0 : Int32)).toNatClampNeg) + (1 : Int32))) ((3 : Int32)).toNatClampNeg (((upd (upd (s.2.1 34) ((2 : Int32)).toNatClampNeg (((s.2.1 34) ((2 : Int32)).toNatClampNeg) + (1 : Int32))) ((0 : Int32)).toNatClampNeg (((upd (s.2.1 34) ((2 : Int32)).toNatClampNeg (((s.2.1 34) ((2 : Int32)).toNatClampNeg) + (1 : Int32))) ((0 : Int32)).toNatClampNeg) + (1 : Int32))) ((3 : Int32)).toNatClampNeg) + (0 : Int32))) ((1 : Int32)).toNatClampNeg) + (0 : Int32)), .int (1 : Int32), .ref 34]) (h' := hpS (sA s 34 (upd (upd (upd (s.2.1 34) ((2 : Int32)).toNatClampNeg (((s.2.1 34) ((2 : Int32)).toNatClampNeg) + (1 : Int32))) ((0 : Int32)).toNatClampNeg (((upd (s.2.1 34) ((2 : Int32)).toNatClampNeg (((s.2.1 34) ((2 : Int32)).toNatClampNeg) + (1 : Int32))) ((0 : Int32)).toNatClampNeg) + (1 : Int32))) ((3 : Int32)).toNatClampNeg (((upd (upd (s.2.1 34) ((2 : Int32)).toNatClampNeg (((s.2.1 34) ((2 : Int32)).toNatClampNeg) + (1 : Int32))) ((0 : Int32)).toNatClampNeg (((upd (s.2.1 34) ((2 : Int32)).toNatClampNeg (((s.2.1 34) ((2 : Int32)).toNatClampNeg) + (1 : Int32))) ((0 : Int32)).toNatClampNeg) + (1 : Int32))) ((3 : Int32)).toNatClampNeg) + (0 : Int32))))) rfl ?_
        obtain ⟨hin, k⟩ := k
        refine Ex.ias hq rfl rfl hin (h' := hpS (sA s 34 (upd (upd (upd (upd (s.2.1 34) ((2 : Int32)).toNatClampNeg (((s.2.1 34) ((2 : Int32)).toNatClampNeg) + (1 : Int32))) ((0 : Int32)).toNatClampNeg (((upd (s.2.1 34) ((2 : Int32)).toNatClampNeg (((s.2.1 34) ((2 : Int32)).toNatClampNeg) + (1 : Int32))) ((0 : Int32)).toNatClampNeg) + (1 : Int32))) ((3 : Int32)).toNatClampNeg (((upd (upd (s.2.1 34) ((2 : Int32)).toNatClampNeg (((s.2.1 34) ((2 : Int32)).toNatClampNeg) + (1 : Int32))) ((0 : Int32)).toNatClampNeg (((upd (s.2.1 34) ((2 : Int32)).toNatClampNeg (((s.2.1 34) ((2 : Int32)).toNatClampNeg) + (1 : Int32))) ((0 : Int32)).toNatClampNeg) + (1 : Int32))) ((3 : Int32)).toNatClampNeg) + (0 : Int32))) ((1 : Int32)).toNatClampNeg (((upd (upd (upd (s.2.1 34) ((2 : Int32)).toNatClampNeg (((s.2.1 34) ((2 : Int32)).toNatClampNeg) + (1 : Int32))) ((0 : Int32)).toNatClampNeg (((upd (s.2.1 34) ((2 : Int32)).toNatClampNeg (((s.2.1 34) ((2 : Int32)).toNatClampNeg) + (1 : Int32))) ((0 : Int32)).toNatClampNeg) + (1 : Int32))) ((3 : Int32)).toNatClampNeg (((upd (upd (s.2.1 34) ((2 : Int32)).toNatClampNeg (((s.2.1 34) ((2 : Int32)).toNatClampNeg) + (1 : Int32))) ((0 : Int32)).toNatClampNeg (((upd (s.2.1 34) ((2 : Int32)).toNatClampNeg (((s.2.1 34) ((2 : Int32)).toNatClampNeg) + (1 : Int32))) ((0 : Int32)).toNatClampNeg) + (1 : Int32))) ((3 : Int32)).toNatClampNeg) + (0 : Int32))) ((1 : Int32)).toNatClampNeg) + (0 : Int32))))) (hset_34 _ _) ?_
        exact Ex.rt hq rfl rfl ⟨(sA s 34 (upd (upd (upd (upd (s.2.1 34) ((2 : Int32)).toNatClampNeg (((s.2.1 34) ((2 : Int32)).toNatClampNeg) + (1 : Int32))) ((0 : Int32)).toNatClampNeg (((upd (s.2.1 34) ((2 : Int32)).toNatClampNeg (((s.2.1 34) ((2 : Int32)).toNatClampNeg) + (1 : Int32))) ((0 : Int32)).toNatClampNeg) + (1 : Int32))) ((3 : Int32)).toNatClampNeg (((upd (upd (s.2.1 34) ((2 : Int32)).toNatClampNeg (((s.2.1 34) ((2 : Int32)).toNatClampNeg) + (1 : Int32))) ((0 : Int32)).toNatClampNeg (((upd (s.2.1 34) ((2 : Int32)).toNatClampNeg (((s.2.1 34) ((2 : Int32)).toNatClampNeg) + (1 : Int32))) ((0 : Int32)).toNatClampNeg) + (1 : Int32))) ((3 : Int32)).toNatClampNeg) + (0 : Int32))) ((1 : Int32)).toNatClampNeg (((upd (upd (upd (s.2.1 34) ((2 : Int32)).toNatClampNeg (((s.2.1 34) ((2 : Int32)).toNatClampNeg) + (1 : Int32))) ((0 : Int32)).toNatClampNeg (((upd (s.2.1 34) ((2 : Int32)).toNatClampNeg (((s.2.1 34) ((2 : Int32)).toNatClampNeg) + (1 : Int32))) ((0 : Int32)).toNatClampNeg) + (1 : Int32))) ((3 : Int32)).toNatClampNeg (((upd (upd (s.2.1 34) ((2 : Int32)).toNatClampNeg (((s.2.1 34) ((2 : Int32)).toNatClampNeg) + (1 : Int32))) ((0 : Int32)).toNatClampNeg (((upd (s.2.1 34) ((2 : Int32)).toNatClampNeg (((s.2.1 34) ((2 : Int32)).toNatClampNeg) + (1 : Int32))) ((0 : Int32)).toNatClampNeg) + (1 : Int32))) ((3 : Int32)).toNatClampNeg) + (0 : Int32))) ((1 : Int32)).toNatClampNeg) + (0 : Int32)))), rfl, rfl, k⟩
      · have k := k.2 c
        refine Ex.seg hq 1 (j := 40) (L' := [.ref 0, .int p0, .int p1]) (S' := [.int p1, .int ((upd (upd (upd (s.2.1 34) ((2 : Int32)).toNatClampNeg (((s.2.1 34) ((2 : Int32)).toNatClampNeg) + (1 : Int32))) ((0 : Int32)).toNatClampNeg (((upd (s.2.1 34) ((2 : Int32)).toNatClampNeg (((s.2.1 34) ((2 : Int32)).toNatClampNeg) + (1 : Int32))) ((0 : Int32)).toNatClampNeg) + (1 : Int32))) ((3 : Int32)).toNatClampNeg (((upd (upd (s.2.1 34) ((2 : Int32)).toNatClampNeg (((s.2.1 34) ((2 : Int32)).toNatClampNeg) + (1 : Int32))) ((0 : Int32)).toNatClampNeg (((upd (s.2.1 34) ((2 : Int32)).toNatClampNeg (((s.2.1 34) ((2 : Int32)).toNatClampNeg) + (1 : Int32))) ((0 : Int32)).toNatClampNeg) + (1 : Int32))) ((3 : Int32)).toNatClampNeg) + (0 : Int32))) ((1 : Int32)).toNatClampNeg), .int (1 : Int32), .ref 34]) (h' := hpS (sA s 34 (upd (upd (upd (s.2.1 34) ((2 : Int32)).toNatClampNeg (((s.2.1 34) ((2 : Int32)).toNatClampNeg) + (1 : Int32))) ((0 : Int32)).toNatClampNeg (((upd (s.2.1 34) ((2 : Int32)).toNatClampNeg (((s.2.1 34) ((2 : Int32)).toNatClampNeg) + (1 : Int32))) ((0 : Int32)).toNatClampNeg) + (1 : Int32))) ((3 : Int32)).toNatClampNeg (((upd (upd (s.2.1 34) ((2 : Int32)).toNatClampNeg (((s.2.1 34) ((2 : Int32)).toNatClampNeg) + (1 : Int32))) ((0 : Int32)).toNatClampNeg (((upd (s.2.1 34) ((2 : Int32)).toNatClampNeg (((s.2.1 34) ((2 : Int32)).toNatClampNeg) + (1 : Int32))) ((0 : Int32)).toNatClampNeg) + (1 : Int32))) ((3 : Int32)).toNatClampNeg) + (0 : Int32))))) rfl ?_
        refine Ex.i1 hq rfl (fun c => ?_) (fun c => ?_)
        · have k := k.1 c
          refine Ex.seg hq 2 (j := 45) (L' := [.ref 0, .int p0, .int p1]) (S' := [.int (((upd (upd (upd (s.2.1 34) ((2 : Int32)).toNatClampNeg (((s.2.1 34) ((2 : Int32)).toNatClampNeg) + (1 : Int32))) ((0 : Int32)).toNatClampNeg (((upd (s.2.1 34) ((2 : Int32)).toNatClampNeg (((s.2.1 34) ((2 : Int32)).toNatClampNeg) + (1 : Int32))) ((0 : Int32)).toNatClampNeg) + (1 : Int32))) ((3 : Int32)).toNatClampNeg (((upd (upd (s.2.1 34) ((2 : Int32)).toNatClampNeg (((s.2.1 34) ((2 : Int32)).toNatClampNeg) + (1 : Int32))) ((0 : Int32)).toNatClampNeg (((upd (s.2.1 34) ((2 : Int32)).toNatClampNeg (((s.2.1 34) ((2 : Int32)).toNatClampNeg) + (1 : Int32))) ((0 : Int32)).toNatClampNeg) + (1 : Int32))) ((3 : Int32)).toNatClampNeg) + (0 : Int32))) ((1 : Int32)).toNatClampNeg) + (0 : Int32)), .int (1 : Int32), .ref 34]) (h' := hpS (sA s 34 (upd (upd (upd (s.2.1 34) ((2 : Int32)).toNatClampNeg (((s.2.1 34) ((2 : Int32)).toNatClampNeg) + (1 : Int32))) ((0 : Int32)).toNatClampNeg (((upd (s.2.1 34) ((2 : Int32)).toNatClampNeg (((s.2.1 34) ((2 : Int32)).toNatClampNeg) + (1 : Int32))) ((0 : Int32)).toNatClampNeg) + (1 : Int32))) ((3 : Int32)).toNatClampNeg (((upd (upd (s.2.1 34) ((2 : Int32)).toNatClampNeg (((s.2.1 34) ((2 : Int32)).toNatClampNeg) + (1 : Int32))) ((0 : Int32)).toNatClampNeg (((upd (s.2.1 34) ((2 : Int32)).toNatClampNeg (((s.2.1 34) ((2 : Int32)).toNatClampNeg) + (1 : Int32))) ((0 : Int32)).toNatClampNeg) + (1 : Int32))) ((3 : Int32)).toNatClampNeg) + (0 : Int32))))) rfl ?_
          obtain ⟨hin, k⟩ := k
          refine Ex.ias hq rfl rfl hin (h' := hpS (sA s 34 (upd (upd (upd (upd (s.2.1 34) ((2 : Int32)).toNatClampNeg (((s.2.1 34) ((2 : Int32)).toNatClampNeg) + (1 : Int32))) ((0 : Int32)).toNatClampNeg (((upd (s.2.1 34) ((2 : Int32)).toNatClampNeg (((s.2.1 34) ((2 : Int32)).toNatClampNeg) + (1 : Int32))) ((0 : Int32)).toNatClampNeg) + (1 : Int32))) ((3 : Int32)).toNatClampNeg (((upd (upd (s.2.1 34) ((2 : Int32)).toNatClampNeg (((s.2.1 34) ((2 : Int32)).toNatClampNeg) + (1 : Int32))) ((0 : Int32)).toNatClampNeg (((upd (s.2.1 34) ((2 : Int32)).toNatClampNeg (((s.2.1 34) ((2 : Int32)).toNatClampNeg) + (1 : Int32))) ((0 : Int32)).toNatClampNeg) + (1 : Int32))) ((3 : Int32)).toNatClampNeg) + (0 : Int32))) ((1 : Int32)).toNatClampNeg (((upd (upd (upd (s.2.1 34) ((2 : Int32)).toNatClampNeg (((s.2.1 34) ((2 : Int32)).toNatClampNeg) + (1 : Int32))) ((0 : Int32)).toNatClampNeg (((upd (s.2.1 34) ((2 : Int32)).toNatClampNeg (((s.2.1 34) ((2 : Int32)).toNatClampNeg) + (1 : Int32))) ((0 : Int32)).toNatClampNeg) + (1 : Int32))) ((3 : Int32)).toNatClampNeg (((upd (upd (s.2.1 34) ((2 : Int32)).toNatClampNeg (((s.2.1 34) ((2 : Int32)).toNatClampNeg) + (1 : Int32))) ((0 : Int32)).toNatClampNeg (((upd (s.2.1 34) ((2 : Int32)).toNatClampNeg (((s.2.1 34) ((2 : Int32)).toNatClampNeg) + (1 : Int32))) ((0 : Int32)).toNatClampNeg) + (1 : Int32))) ((3 : Int32)).toNatClampNeg) + (0 : Int32))) ((1 : Int32)).toNatClampNeg) + (0 : Int32))))) (hset_34 _ _) ?_
          exact Ex.rt hq rfl rfl ⟨(sA s 34 (upd (upd (upd (upd (s.2.1 34) ((2 : Int32)).toNatClampNeg (((s.2.1 34) ((2 : Int32)).toNatClampNeg) + (1 : Int32))) ((0 : Int32)).toNatClampNeg (((upd (s.2.1 34) ((2 : Int32)).toNatClampNeg (((s.2.1 34) ((2 : Int32)).toNatClampNeg) + (1 : Int32))) ((0 : Int32)).toNatClampNeg) + (1 : Int32))) ((3 : Int32)).toNatClampNeg (((upd (upd (s.2.1 34) ((2 : Int32)).toNatClampNeg (((s.2.1 34) ((2 : Int32)).toNatClampNeg) + (1 : Int32))) ((0 : Int32)).toNatClampNeg (((upd (s.2.1 34) ((2 : Int32)).toNatClampNeg (((s.2.1 34) ((2 : Int32)).toNatClampNeg) + (1 : Int32))) ((0 : Int32)).toNatClampNeg) + (1 : Int32))) ((3 : Int32)).toNatClampNeg) + (0 : Int32))) ((1 : Int32)).toNatClampNeg (((upd (upd (upd (s.2.1 34) ((2 : Int32)).toNatClampNeg (((s.2.1 34) ((2 : Int32)).toNatClampNeg) + (1 : Int32))) ((0 : Int32)).toNatClampNeg (((upd (s.2.1 34) ((2 : Int32)).toNatClampNeg (((s.2.1 34) ((2 : Int32)).toNatClampNeg) + (1 : Int32))) ((0 : Int32)).toNatClampNeg) + (1 : Int32))) ((3 : Int32)).toNatClampNeg (((upd (upd (s.2.1 34) ((2 : Int32)).toNatClampNeg (((s.2.1 34) ((2 : Int32)).toNatClampNeg) + (1 : Int32))) ((0 : Int32)).toNatClampNeg (((upd (s.2.1 34) ((2 : Int32)).toNatClampNeg (((s.2.1 34) ((2 : Int32)).toNatClampNeg) + (1 : Int32))) ((0 : Int32)).toNatClampNeg) + (1 : Int32))) ((3 : Int32)).toNatClampNeg) + (0 : Int32))) ((1 : Int32)).toNatClampNeg) + (0 : Int32)))), rfl, rfl, k⟩
        · have k := k.2 c
          refine Ex.seg hq 3 (j := 45) (L' := [.ref 0, .int p0, .int p1]) (S' := [.int (((upd (upd (upd (s.2.1 34) ((2 : Int32)).toNatClampNeg (((s.2.1 34) ((2 : Int32)).toNatClampNeg) + (1 : Int32))) ((0 : Int32)).toNatClampNeg (((upd (s.2.1 34) ((2 : Int32)).toNatClampNeg (((s.2.1 34) ((2 : Int32)).toNatClampNeg) + (1 : Int32))) ((0 : Int32)).toNatClampNeg) + (1 : Int32))) ((3 : Int32)).toNatClampNeg (((upd (upd (s.2.1 34) ((2 : Int32)).toNatClampNeg (((s.2.1 34) ((2 : Int32)).toNatClampNeg) + (1 : Int32))) ((0 : Int32)).toNatClampNeg (((upd (s.2.1 34) ((2 : Int32)).toNatClampNeg (((s.2.1 34) ((2 : Int32)).toNatClampNeg) + (1 : Int32))) ((0 : Int32)).toNatClampNeg) + (1 : Int32))) ((3 : Int32)).toNatClampNeg) + (0 : Int32))) ((1 : Int32)).toNatClampNeg) + (1 : Int32)), .int (1 : Int32), .ref 34]) (h' := hpS (sA s 34 (upd (upd (upd (s.2.1 34) ((2 : Int32)).toNatClampNeg (((s.2.1 34) ((2 : Int32)).toNatClampNeg) + (1 : Int32))) ((0 : Int32)).toNatClampNeg (((upd (s.2.1 34) ((2 : Int32)).toNatClampNeg (((s.2.1 34) ((2 : Int32)).toNatClampNeg) + (1 : Int32))) ((0 : Int32)).toNatClampNeg) + (1 : Int32))) ((3 : Int32)).toNatClampNeg (((upd (upd (s.2.1 34) ((2 : Int32)).toNatClampNeg (((s.2.1 34) ((2 : Int32)).toNatClampNeg) + (1 : Int32))) ((0 : Int32)).toNatClampNeg (((upd (s.2.1 34) ((2 : Int32)).toNatClampNeg (((s.2.1 34) ((2 : Int32)).toNatClampNeg) + (1 : Int32))) ((0 : Int32)).toNatClampNeg) + (1 : Int32))) ((3 : Int32)).toNatClampNeg) + (0 : Int32))))) rfl ?_
          obtain ⟨hin, k⟩ := k
          refine Ex.ias hq rfl rfl hin (h' := hpS (sA s 34 (upd (upd (upd (upd (s.2.1 34) ((2 : Int32)).toNatClampNeg (((s.2.1 34) ((2 : Int32)).toNatClampNeg) + (1 : Int32))) ((0 : Int32)).toNatClampNeg (((upd (s.2.1 34) ((2 : Int32)).toNatClampNeg (((s.2.1 34) ((2 : Int32)).toNatClampNeg) + (1 : Int32))) ((0 : Int32)).toNatClampNeg) + (1 : Int32))) ((3 : Int32)).toNatClampNeg (((upd (upd (s.2.1 34) ((2 : Int32)).toNatClampNeg (((s.2.1 34) ((2 : Int32)).toNatClampNeg) + (1 : Int32))) ((0 : Int32)).toNatClampNeg (((upd (s.2.1 34) ((2 : Int32)).toNatClampNeg (((s.2.1 34) ((2 : Int32)).toNatClampNeg) + (1 : Int32))) ((0 : Int32)).toNatClampNeg) + (1 : Int32))) ((3 : Int32)).toNatClampNeg) + (0 : Int32))) ((1 : Int32)).toNatClampNeg (((upd (upd (upd (s.2.1 34) ((2 : Int32)).toNatClampNeg (((s.2.1 34) ((2 : Int32)).toNatClampNeg) + (1 : Int32))) ((0 : Int32)).toNatClampNeg (((upd (s.2.1 34) ((2 : Int32)).toNatClampNeg (((s.2.1 34) ((2 : Int32)).toNatClampNeg) + (1 : Int32))) ((0 : Int32)).toNatClampNeg) + (1 : Int32))) ((3 : Int32)).toNatClampNeg (((upd (upd (s.2.1 34) ((2 : Int32)).toNatClampNeg (((s.2.1 34) ((2 : Int32)).toNatClampNeg) + (1 : Int32))) ((0 : Int32)).toNatClampNeg (((upd (s.2.1 34) ((2 : Int32)).toNatClampNeg (((s.2.1 34) ((2 : Int32)).toNatClampNeg) + (1 : Int32))) ((0 : Int32)).toNatClampNeg) + (1 : Int32))) ((3 : Int32)).toNatClampNeg) + (0 : Int32))) ((1 : Int32)).toNatClampNeg) + (1 : Int32))))) (hset_34 _ _) ?_
          exact Ex.rt hq rfl rfl ⟨(sA s 34 (upd (upd (upd (upd (s.2.1 34) ((2 : Int32)).toNatClampNeg (((s.2.1 34) ((2 : Int32)).toNatClampNeg) + (1 : Int32))) ((0 : Int32)).toNatClampNeg (((upd (s.2.1 34) ((2 : Int32)).toNatClampNeg (((s.2.1 34) ((2 : Int32)).toNatClampNeg) + (1 : Int32))) ((0 : Int32)).toNatClampNeg) + (1 : Int32))) ((3 : Int32)).toNatClampNeg (((upd (upd (s.2.1 34) ((2 : Int32)).toNatClampNeg (((s.2.1 34) ((2 : Int32)).toNatClampNeg) + (1 : Int32))) ((0 : Int32)).toNatClampNeg (((upd (s.2.1 34) ((2 : Int32)).toNatClampNeg (((s.2.1 34) ((2 : Int32)).toNatClampNeg) + (1 : Int32))) ((0 : Int32)).toNatClampNeg) + (1 : Int32))) ((3 : Int32)).toNatClampNeg) + (0 : Int32))) ((1 : Int32)).toNatClampNeg (((upd (upd (upd (s.2.1 34) ((2 : Int32)).toNatClampNeg (((s.2.1 34) ((2 : Int32)).toNatClampNeg) + (1 : Int32))) ((0 : Int32)).toNatClampNeg (((upd (s.2.1 34) ((2 : Int32)).toNatClampNeg (((s.2.1 34) ((2 : Int32)).toNatClampNeg) + (1 : Int32))) ((0 : Int32)).toNatClampNeg) + (1 : Int32))) ((3 : Int32)).toNatClampNeg (((upd (upd (s.2.1 34) ((2 : Int32)).toNatClampNeg (((s.2.1 34) ((2 : Int32)).toNatClampNeg) + (1 : Int32))) ((0 : Int32)).toNatClampNeg (((upd (s.2.1 34) ((2 : Int32)).toNatClampNeg (((s.2.1 34) ((2 : Int32)).toNatClampNeg) + (1 : Int32))) ((0 : Int32)).toNatClampNeg) + (1 : Int32))) ((3 : Int32)).toNatClampNeg) + (0 : Int32))) ((1 : Int32)).toNatClampNeg) + (1 : Int32)))), rfl, rfl, k⟩
    · have k := k.2 c
      refine Ex.seg hq 3 (j := 31) (L' := [.ref 0, .int p0, .int p1]) (S' := [.int (((upd (upd (s.2.1 34) ((2 : Int32)).toNatClampNeg (((s.2.1 34) ((2 : Int32)).toNatClampNeg) + (1 : Int32))) ((0 : Int32)).toNatClampNeg (((upd (s.2.1 34) ((2 : Int32)).toNatClampNeg (((s.2.1 34) ((2 : Int32)).toNatClampNeg) + (1 : Int32))) ((0 : Int32)).toNatClampNeg) + (1 : Int32))) ((3 : Int32)).toNatClampNeg) + (1 : Int32)), .int (3 : Int32), .ref 34]) (h' := hpS (sA s 34 (upd (upd (s.2.1 34) ((2 : Int32)).toNatClampNeg (((s.2.1 34) ((2 : Int32)).toNatClampNeg) + (1 : Int32))) ((0 : Int32)).toNatClampNeg (((upd (s.2.1 34) ((2 : Int32)).toNatClampNeg (((s.2.1 34) ((2 : Int32)).toNatClampNeg) + (1 : Int32))) ((0 : Int32)).toNatClampNeg) + (1 : Int32))))) rfl ?_
      obtain ⟨hin, k⟩ := k
      refine Ex.ias hq rfl rfl hin (h' := hpS (sA s 34 (upd (upd (upd (s.2.1 34) ((2 : Int32)).toNatClampNeg (((s.2.1 34) ((2 : Int32)).toNatClampNeg) + (1 : Int32))) ((0 : Int32)).toNatClampNeg (((upd (s.2.1 34) ((2 : Int32)).toNatClampNeg (((s.2.1 34) ((2 : Int32)).toNatClampNeg) + (1 : Int32))) ((0 : Int32)).toNatClampNeg) + (1 : Int32))) ((3 : Int32)).toNatClampNeg (((upd (upd (s.2.1 34) ((2 : Int32)).toNatClampNeg (((s.2.1 34) ((2 : Int32)).toNatClampNeg) + (1 : Int32))) ((0 : Int32)).toNatClampNeg (((upd (s.2.1 34) ((2 : Int32)).toNatClampNeg (((s.2.1 34) ((2 : Int32)).toNatClampNeg) + (1 : Int32))) ((0 : Int32)).toNatClampNeg) + (1 : Int32))) ((3 : Int32)).toNatClampNeg) + (1 : Int32))))) (hset_34 _ _) ?_
      refine Ex.seg hq 4 (j := 36) (L' := [.ref 0, .int p0, .int p1]) (S' := [.int (1 : Int32), .ref 34, .int (1 : Int32), .ref 34]) (h' := hpS (sA s 34 (upd (upd (upd (s.2.1 34) ((2 : Int32)).toNatClampNeg (((s.2.1 34) ((2 : Int32)).toNatClampNeg) + (1 : Int32))) ((0 : Int32)).toNatClampNeg (((upd (s.2.1 34) ((2 : Int32)).toNatClampNeg (((s.2.1 34) ((2 : Int32)).toNatClampNeg) + (1 : Int32))) ((0 : Int32)).toNatClampNeg) + (1 : Int32))) ((3 : Int32)).toNatClampNeg (((upd (upd (s.2.1 34) ((2 : Int32)).toNatClampNeg (((s.2.1 34) ((2 : Int32)).toNatClampNeg) + (1 : Int32))) ((0 : Int32)).toNatClampNeg (((upd (s.2.1 34) ((2 : Int32)).toNatClampNeg (((s.2.1 34) ((2 : Int32)).toNatClampNeg) + (1 : Int32))) ((0 : Int32)).toNatClampNeg) + (1 : Int32))) ((3 : Int32)).toNatClampNeg) + (1 : Int32))))) rfl ?_
      obtain ⟨hin, k⟩ := k
      refine Ex.ial hq rfl rfl hin ?_
      refine Ex.seg hq 1 (j := 38) (L' := [.ref 0, .int p0, .int p1]) (S' := [.int p0, .int ((upd (upd (upd (s.2.1 34) ((2 : Int32)).toNatClampNeg (((s.2.1 34) ((2 : Int32)).toNatClampNeg) + (1 : Int32))) ((0 : Int32)).toNatClampNeg (((upd (s.2.1 34) ((2 : Int32)).toNatClampNeg (((s.2.1 34) ((2 : Int32)).toNatClampNeg) + (1 : Int32))) ((0 : Int32)).toNatClampNeg) + (1 : Int32))) ((3 : Int32)).toNatClampNeg (((upd (upd (s.2.1 34) ((2 : Int32)).toNatClampNeg (((s.2.1 34) ((2 : Int32)).toNatClampNeg) + (1 : Int32))) ((0 : Int32)).toNatClampNeg (((upd (s.2.1 34) ((2 : Int32)).toNatClampNeg (((s.2.1 34) ((2 : Int32)).toNatClampNeg) + (1 : Int32))) ((0 : Int32)).toNatClampNeg) + (1 : Int32))) ((3 : Int32)).toNatClampNeg) + (1 : Int32))) ((1 : Int32)).toNatClampNeg), .int (1 : Int32), .ref 34]) (h' := hpS (sA s 34 (upd (upd (upd (s.2.1 34) ((2 : Int32)).toNatClampNeg (((s.2.1 34) ((2 : Int32)).toNatClampNeg) + (1 : Int32))) ((0 : Int32)).toNatClampNeg (((upd (s.2.1 34) ((2 : Int32)).toNatClampNeg (((s.2.1 34) ((2 : Int32)).toNatClampNeg) + (1 : Int32))) ((0 : Int32)).toNatClampNeg) + (1 : Int32))) ((3 : Int32)).toNatClampNeg (((upd (upd (s.2.1 34) ((2 : Int32)).toNatClampNeg (((s.2.1 34) ((2 : Int32)).toNatClampNeg) + (1 : Int32))) ((0 : Int32)).toNatClampNeg (((upd (s.2.1 34) ((2 : Int32)).toNatClampNeg (((s.2.1 34) ((2 : Int32)).toNatClampNeg) + (1 : Int32))) ((0 : Int32)).toNatClampNeg) + (1 : Int32))) ((3 : Int32)).toNatClampNeg) + (1 : Int32))))) rfl ?_
      refine Ex.i1 hq rfl (fun c => ?_) (fun c => ?_)
      · have k := k.1 c
        refine Ex.seg hq 2 (j := 45) (L' := [.ref 0, .int p0, .int p1]) (S' := [.int (((upd (upd (upd (s.2.1 34) ((2 : Int32)).toNatClampNeg (((s.2.1 34) ((2 : Int32)).toNatClampNeg) + (1 : Int32))) ((0 : Int32)).toNatClampNeg (((upd (s.2.1 34) ((2 : Int32)).toNatClampNeg (((s.2.1 34) ((2 : Int32)).toNatClampNeg) + (1 : Int32))) ((0 : Int32)).toNatClampNeg) + (1 : Int32))) ((3 : Int32)).toNatClampNeg (((upd (upd (s.2.1 34) ((2 : Int32)).toNatClampNeg (((s.2.1 34) ((2 : Int32)).toNatClampNeg) + (1 : Int32))) ((0 : Int32)).toNatClampNeg (((upd (s.2.1 34) ((2 : Int32)).toNatClampNeg (((s.2.1 34) ((2 : Int32)).toNatClampNeg) + (1 : Int32))) ((0 : Int32)).toNatClampNeg) + (1 : Int32))) ((3 : Int32)).toNatClampNeg) + (1 : Int32))) ((1 : Int32)).toNatClampNeg) + (0 : Int32)), .int (1 : Int32), .ref 34]) (h' := hpS (sA s 34 (upd (upd (upd (s.2.1 34) ((2 : Int32)).toNatClampNeg (((s.2.1 34) ((2 : Int32)).toNatClampNeg) + (1 : Int32))) ((0 : Int32)).toNatClampNeg (((upd (s.2.1 34) ((2 : Int32)).toNatClampNeg (((s.2.1 34) ((2 : Int32)).toNatClampNeg) + (1 : Int32))) ((0 : Int32)).toNatClampNeg) + (1 : Int32))) ((3 : Int32)).toNatClampNeg (((upd (upd (s.2.1 34) ((2 : Int32)).toNatClampNeg (((s.2.1 34) ((2 : Int32)).toNatClampNeg) + (1 : Int32))) ((0 : Int32)).toNatClampNeg (((upd (s.2.1 34) ((2 : Int32)).toNatClampNeg (((s.2.1 34) ((2 : Int32)).toNatClampNeg) + (1 : Int32))) ((0 : Int32)).toNatClampNeg) + (1 : Int32))) ((3 : Int32)).toNatClampNeg) + (1 : Int32))))) rfl ?_
        obtain ⟨hin, k⟩ := k
        refine Ex.ias hq rfl rfl hin (h' := hpS (sA s 34 (upd (upd (upd (upd (s.2.1 34) ((2 : Int32)).toNatClampNeg (((s.2.1 34) ((2 : Int32)).toNatClampNeg) + (1 : Int32))) ((0 : Int32)).toNatClampNeg (((upd (s.2.1 34) ((2 : Int32)).toNatClampNeg (((s.2.1 34) ((2 : Int32)).toNatClampNeg) + (1 : Int32))) ((0 : Int32)).toNatClampNeg) + (1 : Int32))) ((3 : Int32)).toNatClampNeg (((upd (upd (s.2.1 34) ((2 : Int32)).toNatClampNeg (((s.2.1 34) ((2 : Int32)).toNatClampNeg) + (1 : Int32))) ((0 : Int32)).toNatClampNeg (((upd (s.2.1 34) ((2 : Int32)).toNatClampNeg (((s.2.1 34) ((2 : Int32)).toNatClampNeg) + (1 : Int32))) ((0 : Int32)).toNatClampNeg) + (1 : Int32))) ((3 : Int32)).toNatClampNeg) + (1 : Int32))) ((1 : Int32)).toNatClampNeg (((upd (upd (upd (s.2.1 34) ((2 : Int32)).toNatClampNeg (((s.2.1 34) ((2 : Int32)).toNatClampNeg) + (1 : Int32))) ((0 : Int32)).toNatClampNeg (((upd (s.2.1 34) ((2 : Int32)).toNatClampNeg (((s.2.1 34) ((2 : Int32)).toNatClampNeg) + (1 : Int32))) ((0 : Int32)).toNatClampNeg) + (1 : Int32))) ((3 : Int32)).toNatClampNeg (((upd (upd (s.2.1 34) ((2 : Int32)).toNatClampNeg (((s.2.1 34) ((2 : Int32)).toNatClampNeg) + (1 : Int32))) ((0 : Int32)).toNatClampNeg (((upd (s.2.1 34) ((2 : Int32)).toNatClampNeg (((s.2.1 34) ((2 : Int32)).toNatClampNeg) + (1 : Int32))) ((0 : Int32)).toNatClampNeg) + (1 : Int32))) ((3 : Int32)).toNatClampNeg) + (1 : Int32))) ((1 : Int32)).toNatClampNeg) + (0 : Int32))))) (hset_34 _ _) ?_
        exact Ex.rt hq rfl rfl ⟨(sA s 34 (upd (upd (upd (upd (s.2.1 34) ((2 : Int32)).toNatClampNeg (((s.2.1 34) ((2 : Int32)).toNatClampNeg) + (1 : Int32))) ((0 : Int32)).toNatClampNeg (((upd (s.2.1 34) ((2 : Int32)).toNatClampNeg (((s.2.1 34) ((2 : Int32)).toNatClampNeg) + (1 : Int32))) ((0 : Int32)).toNatClampNeg) + (1 : Int32))) ((3 : Int32)).toNatClampNeg (((upd (upd (s.2.1 34) ((2 : Int32)).toNatClampNeg (((s.2.1 34) ((2 : Int32)).toNatClampNeg) + (1 : Int32))) ((0 : Int32)).toNatClampNeg (((upd (s.2.1 34) ((2 : Int32)).toNatClampNeg (((s.2.1 34) ((2 : Int32)).toNatClampNeg) + (1 : Int32))) ((0 : Int32)).toNatClampNeg) + (1 : Int32))) ((3 : Int32)).toNatClampNeg) + (1 : Int32))) ((1 : Int32)).toNatClampNeg (((upd (upd (upd (s.2.1 34) ((2 : Int32)).toNatClampNeg (((s.2.1 34) ((2 : Int32)).toNatClampNeg) + (1 : Int32))) ((0 : Int32)).toNatClampNeg (((upd (s.2.1 34) ((2 : Int32)).toNatClampNeg (((s.2.1 34) ((2 : Int32)).toNatClampNeg) + (1 : Int32))) ((0 : Int32)).toNatClampNeg) + (1 : Int32))) ((3 : Int32)).toNatClampNeg (((upd (upd (s.2.1 34) ((2 : Int32)).toNatClampNeg (((s.2.1 34) ((2 : Int32)).toNatClampNeg) + (1 : Int32))) ((0 : Int32)).toNatClampNeg (((upd (s.2.1 34) ((2 : Int32)).toNatClampNeg (((s.2.1 34) ((2 : Int32)).toNatClampNeg) + (1 : Int32))) ((0 : Int32)).toNatClampNeg) + (1 : Int32))) ((3 : Int32)).toNatClampNeg) + (1 : Int32))) ((1 : Int32)).toNatClampNeg) + (0 : Int32)))), rfl, rfl, k⟩
      · have k := k.2 c
        refine Ex.seg hq 1 (j := 40) (L' := [.ref 0, .int p0, .int p1]) (S' := [.int p1, .int ((upd (upd (upd (s.2.1 34) ((2 : Int32)).toNatClampNeg (((s.2.1 34) ((2 : Int32)).toNatClampNeg) + (1 : Int32))) ((0 : Int32)).toNatClampNeg (((upd (s.2.1 34) ((2 : Int32)).toNatClampNeg (((s.2.1 34) ((2 : Int32)).toNatClampNeg) + (1 : Int32))) ((0 : Int32)).toNatClampNeg) + (1 : Int32))) ((3 : Int32)).toNatClampNeg (((upd (upd (s.2.1 34) ((2 : Int32)).toNatClampNeg (((s.2.1 34) ((2 : Int32)).toNatClampNeg) + (1 : Int32))) ((0 : Int32)).toNatClampNeg (((upd (s.2.1 34) ((2 : Int32)).toNatClampNeg (((s.2.1 34) ((2 : Int32)).toNatClampNeg) + (1 : Int32))) ((0 : Int32)).toNatClampNeg) + (1 : Int32))) ((3 : Int32)).toNatClampNeg) + (1 : Int32))) ((1 : Int32)).toNatClampNeg), .int (1 : Int32), .ref 34]) (h' := hpS (sA s 34 (upd (upd (upd (s.2.1 34) ((2 : Int32)).toNatClampNeg (((s.2.1 34) ((2 : Int32)).toNatClampNeg) + (1 : Int32))) ((0 : Int32)).toNatClampNeg (((upd (s.2.1 34) ((2 : Int32)).toNatClampNeg (((s.2.1 34) ((2 : Int32)).toNatClampNeg) + (1 : Int32))) ((0 : Int32)).toNatClampNeg) + (1 : Int32))) ((3 : Int32)).toNatClampNeg (((upd (upd (s.2.1 34) ((2 : Int32)).toNatClampNeg (((s.2.1 34) ((2 : Int32)).toNatClampNeg) + (1 : Int32))) ((0 : Int32)).toNatClampNeg (((upd (s.2.1 34) ((2 : Int32)).toNatClampNeg (((s.2.1 34) ((2 : Int32)).toNatClampNeg) + (1 : Int32))) ((0 : Int32)).toNatClampNeg) + (1 : Int32))) ((3 : Int32)).toNatClampNeg) + (1 : Int32))))) rfl ?_
        refine Ex.i1 hq rfl (fun c => ?_) (fun c => ?_)
        · have k := k.1 c
          refine Ex.seg hq 2 (j := 45) (L' := [.ref 0, .int p0, .int p1]) (S' := [.int (((upd (upd (upd (s.2.1 34) ((2 : Int32)).toNatClampNeg (((s.2.1 34) ((2 : Int32)).toNatClampNeg) + (1 : Int32))) ((0 : Int32)).toNatClampNeg (((upd (s.2.1 34) ((2 : Int32)).toNatClampNeg (((s.2.1 34) ((2 : Int32)).toNatClampNeg) + (1 : Int32))) ((0 : Int32)).toNatClampNeg) + (1 : Int32))) ((3 : Int32)).toNatClampNeg (((upd (upd (s.2.1 34) ((2 : Int32)).toNatClampNeg (((s.2.1 34) ((2 : Int32)).toNatClampNeg) + (1 : Int32))) ((0 : Int32)).toNatClampNeg (((upd (s.2.1 34) ((2 : Int32)).toNatClampNeg (((s.2.1 34) ((2 : Int32)).toNatClampNeg) + (1 : Int32))) ((0 : Int32)).toNatClampNeg) + (1 : Int32))) ((3 : Int32)).toNatClampNeg) + (1 : Int32))) ((1 : Int32)).toNatClampNeg) + (0 : Int32)), .int (1 : Int32), .ref 34]) (h' := hpS (sA s 34 (upd (upd (upd (s.2.1 34) ((2 : Int32)).toNatClampNeg (((s.2.1 34) ((2 : Int32)).toNatClampNeg) + (1 : Int32))) ((0 : Int32)).toNatClampNeg (((upd (s.2.1 34) ((2 : Int32)).toNatClampNeg (((s.2.1 34) ((2 : Int32)).toNatClampNeg) + (1 : Int32))) ((0 : Int32)).toNatClampNeg) + (1 : Int32))) ((3 : Int32)).toNatClampNeg (((upd (upd (s.2.1 34) ((2 : Int32)).toNatClampNeg (((s.2.1 34) ((2 : Int32)).toNatClampNeg) + (1 : Int32))) ((0 : Int32)).toNatClampNeg (((upd (s.2.1 34) ((2 : Int32)).toNatClampNeg (((s.2.1 34) ((2 : Int32)).toNatClampNeg) + (1 : Int32))) ((0 : Int32)).toNatClampNeg) + (1 : Int32))) ((3 : Int32)).toNatClampNeg) + (1 : Int32))))) rfl ?_
          obtain ⟨hin, k⟩ := k
          refine Ex.ias hq rfl rfl hin (h' := hpS (sA s 34 (upd (upd (upd (upd (s.2.1 34) ((2 : Int32)).toNatClampNeg (((s.2.1 34) ((2 : Int32)).toNatClampNeg) + (1 : Int32))) ((0 : Int32)).toNatClampNeg (((upd (s.2.1 34) ((2 : Int32)).toNatClampNeg (((s.2.1 34) ((2 : Int32)).toNatClampNeg) + (1 : Int32))) ((0 : Int32)).toNatClampNeg) + (1 : Int32))) ((3 : Int32)).toNatClampNeg (((upd (upd (s.2.1 34) ((2 : Int32)).toNatClampNeg (((s.2.1 34) ((2 : Int32)).toNatClampNeg) + (1 : Int32))) ((0 : Int32)).toNatClampNeg (((upd (s.2.1 34) ((2 : Int32)).toNatClampNeg (((s.2.1 34) ((2 : Int32)).toNatClampNeg) + (1 : Int32))) ((0 : Int32)).toNatClampNeg) + (1 : Int32))) ((3 : Int32)).toNatClampNeg) + (1 : Int32))) ((1 : Int32)).toNatClampNeg (((upd (upd (upd (s.2.1 34) ((2 : Int32)).toNatClampNeg (((s.2.1 34) ((2 : Int32)).toNatClampNeg) + (1 : Int32))) ((0 : Int32)).toNatClampNeg (((upd (s.2.1 34) ((2 : Int32)).toNatClampNeg (((s.2.1 34) ((2 : Int32)).toNatClampNeg) + (1 : Int32))) ((0 : Int32)).toNatClampNeg) + (1 : Int32))) ((3 : Int32)).toNatClampNeg (((upd (upd (s.2.1 34) ((2 : Int32)).toNatClampNeg (((s.2.1 34) ((2 : Int32)).toNatClampNeg) + (1 : Int32))) ((0 : Int32)).toNatClampNeg (((upd (s.2.1 34) ((2 : Int32)).toNatClampNeg (((s.2.1 34) ((2 : Int32)).toNatClampNeg) + (1 : Int32))) ((0 : Int32)).toNatClampNeg) + (1 : Int32))) ((3 : Int32)).toNatClampNeg) + (1 : Int32))) ((1 : Int32)).toNatClampNeg) + (0 : Int32))))) (hset_34 _ _) ?_
          exact Ex.rt hq rfl rfl ⟨(sA s 34 (upd (upd (upd (upd (s.2.1 34) ((2 : Int32)).toNatClampNeg (((s.2.1 34) ((2 : Int32)).toNatClampNeg) + (1 : Int32))) ((0 : Int32)).toNatClampNeg (((upd (s.2.1 34) ((2 : Int32)).toNatClampNeg (((s.2.1 34) ((2 : Int32)).toNatClampNeg) + (1 : Int32))) ((0 : Int32)).toNatClampNeg) + (1 : Int32))) ((3 : Int32)).toNatClampNeg (((upd (upd (s.2.1 34) ((2 : Int32)).toNatClampNeg (((s.2.1 34) ((2 : Int32)).toNatClampNeg) + (1 : Int32))) ((0 : Int32)).toNatClampNeg (((upd (s.2.1 34) ((2 : Int32)).toNatClampNeg (((s.2.1 34) ((2 : Int32)).toNatClampNeg) + (1 : Int32))) ((0 : Int32)).toNatClampNeg) + (1 : Int32))) ((3 : Int32)).toNatClampNeg) + (1 : Int32))) ((1 : Int32)).toNatClampNeg (((upd (upd (upd (s.2.1 34) ((2 : Int32)).toNatClampNeg (((s.2.1 34) ((2 : Int32)).toNatClampNeg) + (1 : Int32))) ((0 : Int32)).toNatClampNeg (((upd (s.2.1 34) ((2 : Int32)).toNatClampNeg (((s.2.1 34) ((2 : Int32)).toNatClampNeg) + (1 : Int32))) ((0 : Int32)).toNatClampNeg) + (1 : Int32))) ((3 : Int32)).toNatClampNeg (((upd (upd (s.2.1 34) ((2 : Int32)).toNatClampNeg (((s.2.1 34) ((2 : Int32)).toNatClampNeg) + (1 : Int32))) ((0 : Int32)).toNatClampNeg (((upd (s.2.1 34) ((2 : Int32)).toNatClampNeg (((s.2.1 34) ((2 : Int32)).toNatClampNeg) + (1 : Int32))) ((0 : Int32)).toNatClampNeg) + (1 : Int32))) ((3 : Int32)).toNatClampNeg) + (1 : Int32))) ((1 : Int32)).toNatClampNeg) + (0 : Int32)))), rfl, rfl, k⟩
        · have k := k.2 c
          refine Ex.seg hq 3 (j := 45) (L' := [.ref 0, .int p0, .int p1]) (S' := [.int (((upd (upd (upd (s.2.1 34) ((2 : Int32)).toNatClampNeg (((s.2.1 34) ((2 : Int32)).toNatClampNeg) + (1 : Int32))) ((0 : Int32)).toNatClampNeg (((upd (s.2.1 34) ((2 : Int32)).toNatClampNeg (((s.2.1 34) ((2 : Int32)).toNatClampNeg) + (1 : Int32))) ((0 : Int32)).toNatClampNeg) + (1 : Int32))) ((3 : Int32)).toNatClampNeg (((upd (upd (s.2.1 34) ((2 : Int32)).toNatClampNeg (((s.2.1 34) ((2 : Int32)).toNatClampNeg) + (1 : Int32))) ((0 : Int32)).toNatClampNeg (((upd (s.2.1 34) ((2 : Int32)).toNatClampNeg (((s.2.1 34) ((2 : Int32)).toNatClampNeg) + (1 : Int32))) ((0 : Int32)).toNatClampNeg) + (1 : Int32))) ((3 : Int32)).toNatClampNeg) + (1 : Int32))) ((1 : Int32)).toNatClampNeg) + (1 : Int32)), .int (1 : Int32), .ref 34]) (h' := hpS (sA s 34 (upd (upd (upd (s.2.1 34) ((2 : Int32)).toNatClampNeg (((s.2.1 34) ((2 : Int32)).toNatClampNeg) + (1 : Int32))) ((0 : Int32)).toNatClampNeg (((upd (s.2.1 34) ((2 : Int32)).toNatClampNeg (((s.2.1 34) ((2 : Int32)).toNatClampNeg) + (1 : Int32))) ((0 : Int32)).toNatClampNeg) + (1 : Int32))) ((3 : Int32)).toNatClampNeg (((upd (upd (s.2.1 34) ((2 : Int32)).toNatClampNeg (((s.2.1 34) ((2 : Int32)).toNatClampNeg) + (1 : Int32))) ((0 : Int32)).toNatClampNeg (((upd (s.2.1 34) ((2 : Int32)).toNatClampNeg (((s.2.1 34) ((2 : Int32)).toNatClampNeg) + (1 : Int32))) ((0 : Int32)).toNatClampNeg) + (1 : Int32))) ((3 : Int32)).toNatClampNeg) + (1 : Int32))))) rfl ?_
          obtain ⟨hin, k⟩ := k
          refine Ex.ias hq rfl rfl hin (h' := hpS (sA s 34 (upd (upd (upd (upd (s.2.1 34) ((2 : Int32)).toNatClampNeg (((s.2.1 34) ((2 : Int32)).toNatClampNeg) + (1 : Int32))) ((0 : Int32)).toNatClampNeg (((upd (s.2.1 34) ((2 : Int32)).toNatClampNeg (((s.2.1 34) ((2 : Int32)).toNatClampNeg) + (1 : Int32))) ((0 : Int32)).toNatClampNeg) + (1 : Int32))) ((3 : Int32)).toNatClampNeg (((upd (upd (s.2.1 34) ((2 : Int32)).toNatClampNeg (((s.2.1 34) ((2 : Int32)).toNatClampNeg) + (1 : Int32))) ((0 : Int32)).toNatClampNeg (((upd (s.2.1 34) ((2 : Int32)).toNatClampNeg (((s.2.1 34) ((2 : Int32)).toNatClampNeg) + (1 : Int32))) ((0 : Int32)).toNatClampNeg) + (1 : Int32))) ((3 : Int32)).toNatClampNeg) + (1 : Int32))) ((1 : Int32)).toNatClampNeg (((upd (upd (upd (s.2.1 34) ((2 : Int32)).toNatClampNeg (((s.2.1 34) ((2 : Int32)).toNatClampNeg) + (1 : Int32))) ((0 : Int32)).toNatClampNeg (((upd (s.2.1 34) ((2 : Int32)).toNatClampNeg (((s.2.1 34) ((2 : Int32)).toNatClampNeg) + (1 : Int32))) ((0 : Int32)).toNatClampNeg) + (1 : Int32))) ((3 : Int32)).toNatClampNeg (((upd (upd (s.2.1 34) ((2 : Int32)).toNatClampNeg (((s.2.1 34) ((2 : Int32)).toNatClampNeg) + (1 : Int32))) ((0 : Int32)).toNatClampNeg (((upd (s.2.1 34) ((2 : Int32)).toNatClampNeg (((s.2.1 34) ((2 : Int32)).toNatClampNeg) + (1 : Int32))) ((0 : Int32)).toNatClampNeg) + (1 : Int32))) ((3 : Int32)).toNatClampNeg) + (1 : Int32))) ((1 : Int32)).toNatClampNeg) + (1 : Int32))))) (hset_34 _ _) ?_
          exact Ex.rt hq rfl rfl ⟨(sA s 34 (upd (upd (upd (upd (s.2.1 34) ((2 : Int32)).toNatClampNeg (((s.2.1 34) ((2 : Int32)).toNatClampNeg) + (1 : Int32))) ((0 : Int32)).toNatClampNeg (((upd (s.2.1 34) ((2 : Int32)).toNatClampNeg (((s.2.1 34) ((2 : Int32)).toNatClampNeg) + (1 : Int32))) ((0 : Int32)).toNatClampNeg) + (1 : Int32))) ((3 : Int32)).toNatClampNeg (((upd (upd (s.2.1 34) ((2 : Int32)).toNatClampNeg (((s.2.1 34) ((2 : Int32)).toNatClampNeg) + (1 : Int32))) ((0 : Int32)).toNatClampNeg (((upd (s.2.1 34) ((2 : Int32)).toNatClampNeg (((s.2.1 34) ((2 : Int32)).toNatClampNeg) + (1 : Int32))) ((0 : Int32)).toNatClampNeg) + (1 : Int32))) ((3 : Int32)).toNatClampNeg) + (1 : Int32))) ((1 : Int32)).toNatClampNeg (((upd (upd (upd (s.2.1 34) ((2 : Int32)).toNatClampNeg (((s.2.1 34) ((2 : Int32)).toNatClampNeg) + (1 : Int32))) ((0 : Int32)).toNatClampNeg (((upd (s.2.1 34) ((2 : Int32)).toNatClampNeg (((s.2.1 34) ((2 : Int32)).toNatClampNeg) + (1 : Int32))) ((0 : Int32)).toNatClampNeg) + (1 : Int32))) ((3 : Int32)).toNatClampNeg (((upd (upd (s.2.1 34) ((2 : Int32)).toNatClampNeg (((s.2.1 34) ((2 : Int32)).toNatClampNeg) + (1 : Int32))) ((0 : Int32)).toNatClampNeg (((upd (s.2.1 34) ((2 : Int32)).toNatClampNeg (((s.2.1 34) ((2 : Int32)).toNatClampNeg) + (1 : Int32))) ((0 : Int32)).toNatClampNeg) + (1 : Int32))) ((3 : Int32)).toNatClampNeg) + (1 : Int32))) ((1 : Int32)).toNatClampNeg) + (1 : Int32)))), rfl, rfl, k⟩
end WP
