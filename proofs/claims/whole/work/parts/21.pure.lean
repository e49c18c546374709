/-! ===== methods that only read, printed by wip/whole/genpure.py ===== -/
theorem br_eqt {c A B : Prop} (h : c) : ((c → A) ∧ (¬ (c) → B)) = A := propext ⟨fun k => k.1 h, fun a => ⟨fun _ => a, fun z => absurd h z⟩⟩
theorem br_eqf {c A B : Prop} (h : ¬ c) : ((c → A) ∧ (¬ (c) → B)) = B := propext ⟨fun k => k.2 h, fun a => ⟨fun z => absurd z h, fun _ => a⟩⟩
theorem and_eqr {p A : Prop} (h : p) : (p ∧ A) = A := propext ⟨fun k => k.2, fun a => ⟨h, a⟩⟩
def v_1 (p1 : Int32) (s : ST) : Int32 := (if p1 < 0 then (0 : Int32) else (if (s.1 101) ≤ p1 then (0 : Int32) else (1 : Int32)))
theorem e_1 (p1 : Int32) (s : ST) {K : Int32 → ST → Prop} : w_1 p1 s K = K (v_1 p1 s) s := by
  unfold w_1 v_1
  by_cases c1 : p1 < 0
  · rw [br_eqt c1, if_pos c1]
    all_goals rfl
  · rw [br_eqf c1, if_neg c1]
    by_cases c2 : (s.1 101) ≤ p1
    · rw [br_eqt c2, if_pos c2]
      all_goals rfl
    · rw [br_eqf c2, if_neg c2]
      all_goals rfl
def v_2 (p1 : Int32) (s : ST) : Int32 := (if p1 < 0 then (0 : Int32) else (if (s.1 102) ≤ p1 then (0 : Int32) else (1 : Int32)))
theorem e_2 (p1 : Int32) (s : ST) {K : Int32 → ST → Prop} : w_2 p1 s K = K (v_2 p1 s) s := by
  unfold w_2 v_2
  by_cases c1 : p1 < 0
  · rw [br_eqt c1, if_pos c1]
    all_goals rfl
  · rw [br_eqf c1, if_neg c1]
    by_cases c2 : (s.1 102) ≤ p1
    · rw [br_eqt c2, if_pos c2]
      all_goals rfl
    · rw [br_eqf c2, if_neg c2]
      all_goals rfl
def v_4 (p1 : Int32) (s : ST) : Int32 := (if p1 < 0 then (0 : Int32) else (if (s.1 101) ≤ p1 then (0 : Int32) else ((s.2.1 2) (p1).toNatClampNeg)))
def ob_4 (p1 : Int32) (s : ST) : Prop := (¬ (p1 < 0) → (¬ ((s.1 101) ≤ p1) → pin p1 10 = true))
theorem e_4 (p1 : Int32) (s : ST) (o : ob_4 p1 s) {K : Int32 → ST → Prop} : w_4 p1 s K = K (v_4 p1 s) s := by
  unfold w_4 v_4
  unfold ob_4 at o
  by_cases c1 : p1 < 0
  · rw [br_eqt c1, if_pos c1]
    all_goals rfl
  · have o := o c1
    rw [br_eqf c1, if_neg c1]
    by_cases c2 : (s.1 101) ≤ p1
    · rw [br_eqt c2, if_pos c2]
      all_goals rfl
    · have o := o c2
      rw [br_eqf c2, if_neg c2]
      rw [and_eqr o]
      all_goals rfl
def v_9 (p1 : Int32) (p2 : Int32) (s : ST) : Int32 := (if p1 < 0 then (-1 : Int32) else (if (s.1 102) ≤ p1 then (-1 : Int32) else (if p2 < 0 then (-1 : Int32) else (if (11 : Int32) ≤ p2 then (-1 : Int32) else ((s.2.1 3) (((p1 * (11 : Int32)) + p2)).toNatClampNeg)))))
def ob_9 (p1 : Int32) (p2 : Int32) (s : ST) : Prop := (¬ (p1 < 0) → (¬ ((s.1 102) ≤ p1) → (¬ (p2 < 0) → (¬ ((11 : Int32) ≤ p2) → pin ((p1 * (11 : Int32)) + p2) 1650 = true))))
theorem e_9 (p1 : Int32) (p2 : Int32) (s : ST) (o : ob_9 p1 p2 s) {K : Int32 → ST → Prop} : w_9 p1 p2 s K = K (v_9 p1 p2 s) s := by
  unfold w_9 v_9
  unfold ob_9 at o
  by_cases c1 : p1 < 0
  · rw [br_eqt c1, if_pos c1]
    all_goals rfl
  · have o := o c1
    rw [br_eqf c1, if_neg c1]
    by_cases c2 : (s.1 102) ≤ p1
    · rw [br_eqt c2, if_pos c2]
      all_goals rfl
    · have o := o c2
      rw [br_eqf c2, if_neg c2]
      by_cases c3 : p2 < 0
      · rw [br_eqt c3, if_pos c3]
        all_goals rfl
      · have o := o c3
        rw [br_eqf c3, if_neg c3]
        by_cases c4 : (11 : Int32) ≤ p2
        · rw [br_eqt c4, if_pos c4]
          all_goals rfl
        · have o := o c4
          rw [br_eqf c4, if_neg c4]
          rw [and_eqr o]
          all_goals rfl
def v_7 (p1 : Int32) (p2 : Int32) (s : ST) : Int32 := (if 0 < ((v_9 p1 (3 : Int32) s) - (v_9 p2 (3 : Int32) s)) then (1 : Int32) else (if ¬ ((v_9 p1 (3 : Int32) s) - (v_9 p2 (3 : Int32) s)) = 0 then (0 : Int32) else (if (v_9 p1 (4 : Int32) s) ≤ (v_9 p2 (4 : Int32) s) then (0 : Int32) else (1 : Int32))))
def ob_7 (p1 : Int32) (p2 : Int32) (s : ST) : Prop := (ob_9 p1 (3 : Int32) s ∧ (ob_9 p2 (3 : Int32) s ∧ (¬ (0 < ((v_9 p1 (3 : Int32) s) - (v_9 p2 (3 : Int32) s))) → (¬ (¬ ((v_9 p1 (3 : Int32) s) - (v_9 p2 (3 : Int32) s)) = 0) → (ob_9 p1 (4 : Int32) s ∧ ob_9 p2 (4 : Int32) s)))))
theorem e_7 (p1 : Int32) (p2 : Int32) (s : ST) (o : ob_7 p1 p2 s) {K : Int32 → ST → Prop} : w_7 p1 p2 s K = K (v_7 p1 p2 s) s := by
  unfold w_7 v_7
  unfold ob_7 at o
  rw [e_9 p1 (3 : Int32) s o.1]
  have o := o.2
  rw [e_9 p2 (3 : Int32) s o.1]
  have o := o.2
  by_cases c1 : 0 < ((v_9 p1 (3 : Int32) s) - (v_9 p2 (3 : Int32) s))
  · rw [br_eqt c1, if_pos c1]
    all_goals rfl
  · have o := o c1
    rw [br_eqf c1, if_neg c1]
    by_cases c2 : ¬ ((v_9 p1 (3 : Int32) s) - (v_9 p2 (3 : Int32) s)) = 0
    · rw [br_eqt c2, if_pos c2]
      all_goals rfl
    · have o := o c2
      rw [br_eqf c2, if_neg c2]
      rw [e_9 p1 (4 : Int32) s o.1]
      have o := o.2
      rw [e_9 p2 (4 : Int32) s o]
      by_cases c3 : (v_9 p1 (4 : Int32) s) ≤ (v_9 p2 (4 : Int32) s)
      · rw [br_eqt c3, if_pos c3]
        all_goals rfl
      · rw [br_eqf c3, if_neg c3]
        all_goals rfl
def v_8 (p1 : Int32) (s : ST) : Int32 := (if p1 < 0 then (-1 : Int32) else (if (s.1 102) ≤ p1 then (-1 : Int32) else ((s.2.1 4) (p1).toNatClampNeg)))
def ob_8 (p1 : Int32) (s : ST) : Prop := (¬ (p1 < 0) → (¬ ((s.1 102) ≤ p1) → pin p1 150 = true))
theorem e_8 (p1 : Int32) (s : ST) (o : ob_8 p1 s) {K : Int32 → ST → Prop} : w_8 p1 s K = K (v_8 p1 s) s := by
  unfold w_8 v_8
  unfold ob_8 at o
  by_cases c1 : p1 < 0
  · rw [br_eqt c1, if_pos c1]
    all_goals rfl
  · have o := o c1
    rw [br_eqf c1, if_neg c1]
    by_cases c2 : (s.1 102) ≤ p1
    · rw [br_eqt c2, if_pos c2]
      all_goals rfl
    · have o := o c2
      rw [br_eqf c2, if_neg c2]
      rw [and_eqr o]
      all_goals rfl
def v_12 (p1 : Int32) (s : ST) : Int32 := (if p1 < 0 then (-1 : Int32) else (if (s.1 103) ≤ p1 then (-1 : Int32) else ((s.2.1 5) (p1).toNatClampNeg)))
def ob_12 (p1 : Int32) (s : ST) : Prop := (¬ (p1 < 0) → (¬ ((s.1 103) ≤ p1) → pin p1 100 = true))
theorem e_12 (p1 : Int32) (s : ST) (o : ob_12 p1 s) {K : Int32 → ST → Prop} : w_12 p1 s K = K (v_12 p1 s) s := by
  unfold w_12 v_12
  unfold ob_12 at o
  by_cases c1 : p1 < 0
  · rw [br_eqt c1, if_pos c1]
    all_goals rfl
  · have o := o c1
    rw [br_eqf c1, if_neg c1]
    by_cases c2 : (s.1 103) ≤ p1
    · rw [br_eqt c2, if_pos c2]
      all_goals rfl
    · have o := o c2
      rw [br_eqf c2, if_neg c2]
      rw [and_eqr o]
      all_goals rfl
def v_13 (p1 : Int32) (s : ST) : Int32 := (if p1 < 0 then (0 : Int32) else (if (s.1 103) ≤ p1 then (0 : Int32) else ((s.2.1 6) (p1).toNatClampNeg)))
def ob_13 (p1 : Int32) (s : ST) : Prop := (¬ (p1 < 0) → (¬ ((s.1 103) ≤ p1) → pin p1 100 = true))
theorem e_13 (p1 : Int32) (s : ST) (o : ob_13 p1 s) {K : Int32 → ST → Prop} : w_13 p1 s K = K (v_13 p1 s) s := by
  unfold w_13 v_13
  unfold ob_13 at o
  by_cases c1 : p1 < 0
  · rw [br_eqt c1, if_pos c1]
    all_goals rfl
  · have o := o c1
    rw [br_eqf c1, if_neg c1]
    by_cases c2 : (s.1 103) ≤ p1
    · rw [br_eqt c2, if_pos c2]
      all_goals rfl
    · have o := o c2
      rw [br_eqf c2, if_neg c2]
      rw [and_eqr o]
      all_goals rfl
def v_14 (p1 : Int32) (s : ST) : Int32 := (if p1 < 0 then (-1 : Int32) else (if (s.1 103) ≤ p1 then (-1 : Int32) else ((s.2.1 7) (p1).toNatClampNeg)))
def ob_14 (p1 : Int32) (s : ST) : Prop := (¬ (p1 < 0) → (¬ ((s.1 103) ≤ p1) → pin p1 100 = true))
theorem e_14 (p1 : Int32) (s : ST) (o : ob_14 p1 s) {K : Int32 → ST → Prop} : w_14 p1 s K = K (v_14 p1 s) s := by
  unfold w_14 v_14
  unfold ob_14 at o
  by_cases c1 : p1 < 0
  · rw [br_eqt c1, if_pos c1]
    all_goals rfl
  · have o := o c1
    rw [br_eqf c1, if_neg c1]
    by_cases c2 : (s.1 103) ≤ p1
    · rw [br_eqt c2, if_pos c2]
      all_goals rfl
    · have o := o c2
      rw [br_eqf c2, if_neg c2]
      rw [and_eqr o]
      all_goals rfl
def v_15 (p1 : Int32) (s : ST) : Int32 := (if (v_9 p1 (0 : Int32) s) = 0 then (v_9 p1 (2 : Int32) s) else (if ¬ (v_9 p1 (0 : Int32) s) = (1 : Int32) then (-1 : Int32) else (v_9 p1 (2 : Int32) s)))
def ob_15 (p1 : Int32) (s : ST) : Prop := (ob_9 p1 (0 : Int32) s ∧ (((v_9 p1 (0 : Int32) s) = 0 → ob_9 p1 (2 : Int32) s) ∧ (¬ ((v_9 p1 (0 : Int32) s) = 0) → (¬ (¬ (v_9 p1 (0 : Int32) s) = (1 : Int32)) → ob_9 p1 (2 : Int32) s))))
theorem e_15 (p1 : Int32) (s : ST) (o : ob_15 p1 s) {K : Int32 → ST → Prop} : w_15 p1 s K = K (v_15 p1 s) s := by
  unfold w_15 v_15
  unfold ob_15 at o
  rw [e_9 p1 (0 : Int32) s o.1]
  have o := o.2
  by_cases c1 : (v_9 p1 (0 : Int32) s) = 0
  · have o := o.1 c1
    rw [br_eqt c1, if_pos c1]
    rw [e_9 p1 (2 : Int32) s o]
    all_goals rfl
  · have o := o.2 c1
    rw [br_eqf c1, if_neg c1]
    by_cases c2 : ¬ (v_9 p1 (0 : Int32) s) = (1 : Int32)
    · rw [br_eqt c2, if_pos c2]
      all_goals rfl
    · have o := o c2
      rw [br_eqf c2, if_neg c2]
      rw [e_9 p1 (2 : Int32) s o]
      all_goals rfl
def v_16 (p1 : Int32) (s : ST) : Int32 := (if ¬ (v_9 p1 (0 : Int32) s) = (2 : Int32) then (-1 : Int32) else (v_9 p1 (2 : Int32) s))
def ob_16 (p1 : Int32) (s : ST) : Prop := (ob_9 p1 (0 : Int32) s ∧ (¬ (¬ (v_9 p1 (0 : Int32) s) = (2 : Int32)) → ob_9 p1 (2 : Int32) s))
theorem e_16 (p1 : Int32) (s : ST) (o : ob_16 p1 s) {K : Int32 → ST → Prop} : w_16 p1 s K = K (v_16 p1 s) s := by
  unfold w_16 v_16
  unfold ob_16 at o
  rw [e_9 p1 (0 : Int32) s o.1]
  have o := o.2
  by_cases c1 : ¬ (v_9 p1 (0 : Int32) s) = (2 : Int32)
  · rw [br_eqt c1, if_pos c1]
    all_goals rfl
  · have o := o c1
    rw [br_eqf c1, if_neg c1]
    rw [e_9 p1 (2 : Int32) s o]
    all_goals rfl
def v_17 (p1 : Int32) (p2 : Int32) (s : ST) : Int32 := (if ¬ (v_16 p1 s) = p2 then (if ¬ (v_9 p1 (1 : Int32) s) = p2 then (0 : Int32) else (if ¬ (v_9 p1 (0 : Int32) s) = (3 : Int32) then (if ¬ (v_9 p1 (0 : Int32) s) = 0 then (-1 : Int32) else (1 : Int32)) else (0 : Int32))) else (1 : Int32))
def ob_17 (p1 : Int32) (p2 : Int32) (s : ST) : Prop := (ob_16 p1 s ∧ (¬ (v_16 p1 s) = p2 → (ob_9 p1 (0 : Int32) s ∧ ob_9 p1 (1 : Int32) s)))
theorem e_17 (p1 : Int32) (p2 : Int32) (s : ST) (o : ob_17 p1 p2 s) {K : Int32 → ST → Prop} : w_17 p1 p2 s K = K (v_17 p1 p2 s) s := by
  unfold w_17 v_17
  unfold ob_17 at o
  rw [e_16 p1 s o.1]
  have o := o.2
  by_cases c1 : ¬ (v_16 p1 s) = p2
  · have o := o c1
    rw [br_eqt c1, if_pos c1]
    rw [e_9 p1 (0 : Int32) s o.1]
    have o := o.2
    rw [e_9 p1 (1 : Int32) s o]
    by_cases c2 : ¬ (v_9 p1 (1 : Int32) s) = p2
    · rw [br_eqt c2, if_pos c2]
      all_goals rfl
    · rw [br_eqf c2, if_neg c2]
      by_cases c3 : ¬ (v_9 p1 (0 : Int32) s) = (3 : Int32)
      · rw [br_eqt c3, if_pos c3]
        by_cases c4 : ¬ (v_9 p1 (0 : Int32) s) = 0
        · rw [br_eqt c4, if_pos c4]
          all_goals rfl
        · rw [br_eqf c4, if_neg c4]
          all_goals rfl
      · rw [br_eqf c3, if_neg c3]
        all_goals rfl
  · rw [br_eqf c1, if_neg c1]
    all_goals rfl
def v_119 (p1 : Int32) (s : ST) : Int32 := (if p1 < 0 then (0 : Int32) else (if (150 : Int32) ≤ p1 then (0 : Int32) else ((s.2.1 9) (p1).toNatClampNeg)))
def ob_119 (p1 : Int32) (s : ST) : Prop := (¬ (p1 < 0) → (¬ ((150 : Int32) ≤ p1) → pin p1 150 = true))
theorem e_119 (p1 : Int32) (s : ST) (o : ob_119 p1 s) {K : Int32 → ST → Prop} : w_119 p1 s K = K (v_119 p1 s) s := by
  unfold w_119 v_119
  unfold ob_119 at o
  by_cases c1 : p1 < 0
  · rw [br_eqt c1, if_pos c1]
    all_goals rfl
  · have o := o c1
    rw [br_eqf c1, if_neg c1]
    by_cases c2 : (150 : Int32) ≤ p1
    · rw [br_eqt c2, if_pos c2]
      all_goals rfl
    · have o := o c2
      rw [br_eqf c2, if_neg c2]
      rw [and_eqr o]
      all_goals rfl
def v_121 (p1 : Int32) (s : ST) : Int32 := (if p1 < 0 then (0 : Int32) else (if (150 : Int32) ≤ p1 then (0 : Int32) else ((s.2.1 12) (p1).toNatClampNeg)))
def ob_121 (p1 : Int32) (s : ST) : Prop := (¬ (p1 < 0) → (¬ ((150 : Int32) ≤ p1) → pin p1 150 = true))
theorem e_121 (p1 : Int32) (s : ST) (o : ob_121 p1 s) {K : Int32 → ST → Prop} : w_121 p1 s K = K (v_121 p1 s) s := by
  unfold w_121 v_121
  unfold ob_121 at o
  by_cases c1 : p1 < 0
  · rw [br_eqt c1, if_pos c1]
    all_goals rfl
  · have o := o c1
    rw [br_eqf c1, if_neg c1]
    by_cases c2 : (150 : Int32) ≤ p1
    · rw [br_eqt c2, if_pos c2]
      all_goals rfl
    · have o := o c2
      rw [br_eqf c2, if_neg c2]
      rw [and_eqr o]
      all_goals rfl
def v_122 (p1 : Int32) (s : ST) : Int32 := (if p1 < 0 then (0 : Int32) else (if (150 : Int32) ≤ p1 then (0 : Int32) else ((s.2.1 13) (p1).toNatClampNeg)))
def ob_122 (p1 : Int32) (s : ST) : Prop := (¬ (p1 < 0) → (¬ ((150 : Int32) ≤ p1) → pin p1 150 = true))
theorem e_122 (p1 : Int32) (s : ST) (o : ob_122 p1 s) {K : Int32 → ST → Prop} : w_122 p1 s K = K (v_122 p1 s) s := by
  unfold w_122 v_122
  unfold ob_122 at o
  by_cases c1 : p1 < 0
  · rw [br_eqt c1, if_pos c1]
    all_goals rfl
  · have o := o c1
    rw [br_eqf c1, if_neg c1]
    by_cases c2 : (150 : Int32) ≤ p1
    · rw [br_eqt c2, if_pos c2]
      all_goals rfl
    · have o := o c2
      rw [br_eqf c2, if_neg c2]
      rw [and_eqr o]
      all_goals rfl
def v_22 (p1 : Int32) (s : ST) : Int64 := (if p1 < 0 then (0 : Int64) else (if (Int32.ofNat 13) ≤ p1 then (0 : Int64) else ((s.2.2.1 17) (p1).toNatClampNeg)))
def ob_22 (p1 : Int32) (s : ST) : Prop := (¬ (p1 < 0) → (¬ ((Int32.ofNat 13) ≤ p1) → pin p1 13 = true))
theorem e_22 (p1 : Int32) (s : ST) (o : ob_22 p1 s) {K : Int64 → ST → Prop} : w_22 p1 s K = K (v_22 p1 s) s := by
  unfold w_22 v_22
  unfold ob_22 at o
  by_cases c1 : p1 < 0
  · rw [br_eqt c1, if_pos c1]
    all_goals rfl
  · have o := o c1
    rw [br_eqf c1, if_neg c1]
    by_cases c2 : (Int32.ofNat 13) ≤ p1
    · rw [br_eqt c2, if_pos c2]
      all_goals rfl
    · have o := o c2
      rw [br_eqf c2, if_neg c2]
      rw [and_eqr o]
      all_goals rfl
def v_23 (p0 : Int32) (p1 : Int64) (s : ST) : Int32 := (if ¬ (lg_cmp p1 (0 : Int64)) = 0 then (0 : Int32) else (if p0 = (8 : Int32) then (1 : Int32) else (if ¬ p0 = (9 : Int32) then (0 : Int32) else (1 : Int32))))
theorem e_23 (p0 : Int32) (p1 : Int64) (s : ST) {K : Int32 → ST → Prop} : w_23 p0 p1 s K = K (v_23 p0 p1 s) s := by
  unfold w_23 v_23
  by_cases c1 : ¬ (lg_cmp p1 (0 : Int64)) = 0
  · rw [br_eqt c1, if_pos c1]
    all_goals rfl
  · rw [br_eqf c1, if_neg c1]
    by_cases c2 : p0 = (8 : Int32)
    · rw [br_eqt c2, if_pos c2]
      all_goals rfl
    · rw [br_eqf c2, if_neg c2]
      by_cases c3 : ¬ p0 = (9 : Int32)
      · rw [br_eqt c3, if_pos c3]
        all_goals rfl
      · rw [br_eqf c3, if_neg c3]
        all_goals rfl
def v_24 (p0 : Int32) (p1 : Int64) (p2 : Int64) (s : ST) : Int64 := (if p0 = (5 : Int32) then (p1 + p2) else (if p0 = (6 : Int32) then (p1 - p2) else (if p0 = (7 : Int32) then (p1 * p2) else (if p0 = (8 : Int32) then (if ¬ (lg_cmp p2 (0 : Int64)) = 0 then (p1 / p2) else (0 : Int64)) else (if p0 = (9 : Int32) then (if ¬ (lg_cmp p2 (0 : Int64)) = 0 then (p1 - p1 / p2 * p2) else (0 : Int64)) else (if p0 = (10 : Int32) then (if 0 ≤ (lg_cmp p1 p2) then (0 : Int64) else (1 : Int64)) else (if p0 = (11 : Int32) then (if (lg_cmp p1 p2) ≤ 0 then (0 : Int64) else (1 : Int64)) else (if ¬ (lg_cmp p1 p2) = 0 then (0 : Int64) else (1 : Int64)))))))))
def ob_24 (p0 : Int32) (p1 : Int64) (p2 : Int64) (s : ST) : Prop := ((p0 = (8 : Int32) → (¬ (lg_cmp p2 (0 : Int64)) = 0 → ¬ p2 = 0)) ∧ (p0 = (9 : Int32) → (¬ (lg_cmp p2 (0 : Int64)) = 0 → ¬ p2 = 0)))
def v_123 (p1 : Int32) (s : ST) : Int32 := (if p1 < 0 then (-1 : Int32) else (if (s.1 801) ≤ p1 then (-1 : Int32) else ((s.2.1 11) (p1).toNatClampNeg)))
def ob_123 (p1 : Int32) (s : ST) : Prop := (¬ (p1 < 0) → (¬ ((s.1 801) ≤ p1) → pin p1 150 = true))
theorem e_123 (p1 : Int32) (s : ST) (o : ob_123 p1 s) {K : Int32 → ST → Prop} : w_123 p1 s K = K (v_123 p1 s) s := by
  unfold w_123 v_123
  unfold ob_123 at o
  by_cases c1 : p1 < 0
  · rw [br_eqt c1, if_pos c1]
    all_goals rfl
  · have o := o c1
    rw [br_eqf c1, if_neg c1]
    by_cases c2 : (s.1 801) ≤ p1
    · rw [br_eqt c2, if_pos c2]
      all_goals rfl
    · have o := o c2
      rw [br_eqf c2, if_neg c2]
      rw [and_eqr o]
      all_goals rfl
def v_181 (p0 : Int32) (p1 : Int32) (p2 : Int32) (s : ST) : Int32 := (if p0 < p1 then (0 : Int32) else (if p2 < p0 then (0 : Int32) else (1 : Int32)))
theorem e_181 (p0 : Int32) (p1 : Int32) (p2 : Int32) (s : ST) {K : Int32 → ST → Prop} : w_181 p0 p1 p2 s K = K (v_181 p0 p1 p2 s) s := by
  unfold w_181 v_181
  by_cases c1 : p0 < p1
  · rw [br_eqt c1, if_pos c1]
    all_goals rfl
  · rw [br_eqf c1, if_neg c1]
    by_cases c2 : p2 < p0
    · rw [br_eqt c2, if_pos c2]
      all_goals rfl
    · rw [br_eqf c2, if_neg c2]
      all_goals rfl
def v_184 (p0 : Int32) (p1 : Int32) (s : ST) : Int32 := (if ((p1 >>> (p0 &&& 31)) &&& (1 : Int32)) = 0 then (0 : Int32) else (1 : Int32))
theorem e_184 (p0 : Int32) (p1 : Int32) (s : ST) {K : Int32 → ST → Prop} : w_184 p0 p1 s K = K (v_184 p0 p1 s) s := by
  unfold w_184 v_184
  by_cases c1 : ((p1 >>> (p0 &&& 31)) &&& (1 : Int32)) = 0
  · rw [br_eqt c1, if_pos c1]
    all_goals rfl
  · rw [br_eqf c1, if_neg c1]
    all_goals rfl
def v_37 (p1 : Int32) (p2 : Int32) (s : ST) : Int32 := (if p1 < 0 then (-1 : Int32) else (if (4 : Int32) < p1 then (-1 : Int32) else (if p2 < 0 then (-1 : Int32) else (if (151 : Int32) ≤ p2 then (-1 : Int32) else ((s.2.1 53) (((p1 * (151 : Int32)) + p2)).toNatClampNeg)))))
def ob_37 (p1 : Int32) (p2 : Int32) (s : ST) : Prop := (¬ (p1 < 0) → (¬ ((4 : Int32) < p1) → (¬ (p2 < 0) → (¬ ((151 : Int32) ≤ p2) → pin ((p1 * (151 : Int32)) + p2) 755 = true))))
theorem e_37 (p1 : Int32) (p2 : Int32) (s : ST) (o : ob_37 p1 p2 s) {K : Int32 → ST → Prop} : w_37 p1 p2 s K = K (v_37 p1 p2 s) s := by
  unfold w_37 v_37
  unfold ob_37 at o
  by_cases c1 : p1 < 0
  · rw [br_eqt c1, if_pos c1]
    all_goals rfl
  · have o := o c1
    rw [br_eqf c1, if_neg c1]
    by_cases c2 : (4 : Int32) < p1
    · rw [br_eqt c2, if_pos c2]
      all_goals rfl
    · have o := o c2
      rw [br_eqf c2, if_neg c2]
      by_cases c3 : p2 < 0
      · rw [br_eqt c3, if_pos c3]
        all_goals rfl
      · have o := o c3
        rw [br_eqf c3, if_neg c3]
        by_cases c4 : (151 : Int32) ≤ p2
        · rw [br_eqt c4, if_pos c4]
          all_goals rfl
        · have o := o c4
          rw [br_eqf c4, if_neg c4]
          rw [and_eqr o]
          all_goals rfl
def v_35 (p1 : Int32) (p2 : Int32) (s : ST) : Int32 := (if (v_181 p2 (0 : Int32) (149 : Int32) s) = 0 then (-1 : Int32) else (if (v_184 p1 ((s.2.1 52) (p2).toNatClampNeg) s) = 0 then (-1 : Int32) else (if (v_37 (p1 + (1 : Int32)) (p2 + (1 : Int32)) s) = (-1 : Int32) then (-1 : Int32) else ((v_119 (v_123 p2 s) s) + (v_37 (p1 + (1 : Int32)) (p2 + (1 : Int32)) s)))))
def ob_35 (p1 : Int32) (p2 : Int32) (s : ST) : Prop := (((v_181 p2 (0 : Int32) (149 : Int32) s) = 0 → ob_37 (p1 + (1 : Int32)) (p2 + (1 : Int32)) s) ∧ (¬ ((v_181 p2 (0 : Int32) (149 : Int32) s) = 0) → (pin p2 150 = true ∧ (((v_184 p1 ((s.2.1 52) (p2).toNatClampNeg) s) = 0 → ob_37 (p1 + (1 : Int32)) (p2 + (1 : Int32)) s) ∧ (¬ ((v_184 p1 ((s.2.1 52) (p2).toNatClampNeg) s) = 0) → (ob_37 (p1 + (1 : Int32)) (p2 + (1 : Int32)) s ∧ (¬ ((v_37 (p1 + (1 : Int32)) (p2 + (1 : Int32)) s) = (-1 : Int32)) → (ob_123 p2 s ∧ ob_119 (v_123 p2 s) s))))))))
theorem e_35 (p1 : Int32) (p2 : Int32) (s : ST) (o : ob_35 p1 p2 s) {K : Int32 → ST → Prop} : w_35 p1 p2 s K = K (v_35 p1 p2 s) s := by
  unfold w_35 v_35
  unfold ob_35 at o
  rw [e_181 p2 (0 : Int32) (149 : Int32) s]
  by_cases c1 : (v_181 p2 (0 : Int32) (149 : Int32) s) = 0
  · have o := o.1 c1
    rw [br_eqt c1, if_pos c1]
    rw [e_37 (p1 + (1 : Int32)) (p2 + (1 : Int32)) s o]
    all_goals rfl
  · have o := o.2 c1
    rw [br_eqf c1, if_neg c1]
    rw [and_eqr o.1]
    have o := o.2
    rw [e_184 p1 ((s.2.1 52) (p2).toNatClampNeg) s]
    by_cases c2 : (v_184 p1 ((s.2.1 52) (p2).toNatClampNeg) s) = 0
    · have o := o.1 c2
      rw [br_eqt c2, if_pos c2]
      rw [e_37 (p1 + (1 : Int32)) (p2 + (1 : Int32)) s o]
      all_goals rfl
    · have o := o.2 c2
      rw [br_eqf c2, if_neg c2]
      rw [e_37 (p1 + (1 : Int32)) (p2 + (1 : Int32)) s o.1]
      have o := o.2
      by_cases c3 : (v_37 (p1 + (1 : Int32)) (p2 + (1 : Int32)) s) = (-1 : Int32)
      · rw [br_eqt c3, if_pos c3]
        all_goals rfl
      · have o := o c3
        rw [br_eqf c3, if_neg c3]
        rw [e_123 p2 s o.1]
        have o := o.2
        rw [e_119 (v_123 p2 s) s o]
        all_goals rfl
def v_36 (p1 : Int32) (p2 : Int32) (p3 : Int32) (s : ST) : Int32 := (if (v_35 p1 p2 s) = (-1 : Int32) then (0 : Int32) else (if (v_35 p1 p2 s) < p3 then (0 : Int32) else (1 : Int32)))
def ob_36 (p1 : Int32) (p2 : Int32) (p3 : Int32) (s : ST) : Prop := ob_35 p1 p2 s
theorem e_36 (p1 : Int32) (p2 : Int32) (p3 : Int32) (s : ST) (o : ob_36 p1 p2 p3 s) {K : Int32 → ST → Prop} : w_36 p1 p2 p3 s K = K (v_36 p1 p2 p3 s) s := by
  unfold w_36 v_36
  unfold ob_36 at o
  rw [e_35 p1 p2 s o]
  by_cases c1 : (v_35 p1 p2 s) = (-1 : Int32)
  · rw [br_eqt c1, if_pos c1]
    all_goals rfl
  · rw [br_eqf c1, if_neg c1]
    by_cases c2 : (v_35 p1 p2 s) < p3
    · rw [br_eqt c2, if_pos c2]
      all_goals rfl
    · rw [br_eqf c2, if_neg c2]
      all_goals rfl
def v_118 (p1 : Int32) (s : ST) : Int32 := (if p1 < 0 then (0 : Int32) else (if (150 : Int32) ≤ p1 then (0 : Int32) else (if ((s.2.1 9) (p1).toNatClampNeg) ≤ 0 then (0 : Int32) else (1 : Int32))))
def ob_118 (p1 : Int32) (s : ST) : Prop := (¬ (p1 < 0) → (¬ ((150 : Int32) ≤ p1) → pin p1 150 = true))
theorem e_118 (p1 : Int32) (s : ST) (o : ob_118 p1 s) {K : Int32 → ST → Prop} : w_118 p1 s K = K (v_118 p1 s) s := by
  unfold w_118 v_118
  unfold ob_118 at o
  by_cases c1 : p1 < 0
  · rw [br_eqt c1, if_pos c1]
    all_goals rfl
  · have o := o c1
    rw [br_eqf c1, if_neg c1]
    by_cases c2 : (150 : Int32) ≤ p1
    · rw [br_eqt c2, if_pos c2]
      all_goals rfl
    · have o := o c2
      rw [br_eqf c2, if_neg c2]
      rw [and_eqr o]
      by_cases c3 : ((s.2.1 9) (p1).toNatClampNeg) ≤ 0
      · rw [br_eqt c3, if_pos c3]
        all_goals rfl
      · rw [br_eqf c3, if_neg c3]
        all_goals rfl
def v_120 (p1 : Int32) (s : ST) : Int32 := (if p1 < 0 then (-1 : Int32) else (if (150 : Int32) ≤ p1 then (-1 : Int32) else (if ((s.2.1 9) (p1).toNatClampNeg) ≤ 0 then (-1 : Int32) else ((s.2.1 10) (p1).toNatClampNeg))))
def ob_120 (p1 : Int32) (s : ST) : Prop := (¬ (p1 < 0) → (¬ ((150 : Int32) ≤ p1) → (pin p1 150 = true ∧ (¬ (((s.2.1 9) (p1).toNatClampNeg) ≤ 0) → pin p1 150 = true))))
theorem e_120 (p1 : Int32) (s : ST) (o : ob_120 p1 s) {K : Int32 → ST → Prop} : w_120 p1 s K = K (v_120 p1 s) s := by
  unfold w_120 v_120
  unfold ob_120 at o
  by_cases c1 : p1 < 0
  · rw [br_eqt c1, if_pos c1]
    all_goals rfl
  · have o := o c1
    rw [br_eqf c1, if_neg c1]
    by_cases c2 : (150 : Int32) ≤ p1
    · rw [br_eqt c2, if_pos c2]
      all_goals rfl
    · have o := o c2
      rw [br_eqf c2, if_neg c2]
      rw [and_eqr o.1]
      have o := o.2
      by_cases c3 : ((s.2.1 9) (p1).toNatClampNeg) ≤ 0
      · rw [br_eqt c3, if_pos c3]
        all_goals rfl
      · have o := o c3
        rw [br_eqf c3, if_neg c3]
        rw [and_eqr o]
        all_goals rfl
def v_51 (p1 : Int32) (s : ST) : Int32 := (v_181 p1 (0 : Int32) ((s.1 3711) - (1 : Int32)) s)
theorem e_51 (p1 : Int32) (s : ST) {K : Int32 → ST → Prop} : w_51 p1 s K = K (v_51 p1 s) s := by
  unfold w_51 v_51
  rw [e_181 p1 (0 : Int32) ((s.1 3711) - (1 : Int32)) s]
  all_goals rfl
def v_50 (p1 : Int32) (s : ST) : Int32 := ((s.2.1 44) (((s.2.1 42) ((p1 ^^^ (1 : Int32))).toNatClampNeg)).toNatClampNeg)
def ob_50 (p1 : Int32) (s : ST) : Prop := (pin (p1 ^^^ (1 : Int32)) 624 = true ∧ pin ((s.2.1 42) ((p1 ^^^ (1 : Int32))).toNatClampNeg) 163 = true)
theorem e_50 (p1 : Int32) (s : ST) (o : ob_50 p1 s) {K : Int32 → ST → Prop} : w_50 p1 s K = K (v_50 p1 s) s := by
  unfold w_50 v_50
  unfold ob_50 at o
  rw [and_eqr o.1]
  have o := o.2
  rw [and_eqr o]
  all_goals rfl
def v_297_R20  (s : ST) : Int32 := (s.1 2002)
theorem e_297_R20  (s : ST) {K : Int32 → ST → Prop} : w_297_R20  s K = K (v_297_R20  s) s := by
  unfold w_297_R20 v_297_R20
  all_goals rfl
def v_60  (s : ST) : Int32 := (if (s.1 3505) = 0 then (0 : Int32) else (1 : Int32))
theorem e_60  (s : ST) {K : Int32 → ST → Prop} : w_60  s K = K (v_60  s) s := by
  unfold w_60 v_60
  by_cases c1 : (s.1 3505) = 0
  · rw [br_eqt c1, if_pos c1]
    all_goals rfl
  · rw [br_eqf c1, if_neg c1]
    all_goals rfl
def v_61  (s : ST) : Int32 := (((-1000 : Int32) * (s.1 3505)) - (s.1 3506))
theorem e_61  (s : ST) {K : Int32 → ST → Prop} : w_61  s K = K (v_61  s) s := by
  unfold w_61 v_61
  all_goals rfl
def v_81  (s : ST) : Int32 := (if ¬ (s.1 3505) = 0 then (-1 : Int32) else (if (s.1 3504) < 0 then (-1 : Int32) else (if (s.1 3502) ≤ (s.1 3504) then (-1 : Int32) else ((s.2.1 27) ((s.1 3504)).toNatClampNeg))))
def ob_81  (s : ST) : Prop := (¬ (¬ (s.1 3505) = 0) → (¬ ((s.1 3504) < 0) → (¬ ((s.1 3502) ≤ (s.1 3504)) → pin (s.1 3504) 200 = true)))
theorem e_81  (s : ST) (o : ob_81  s) {K : Int32 → ST → Prop} : w_81  s K = K (v_81  s) s := by
  unfold w_81 v_81
  unfold ob_81 at o
  by_cases c1 : ¬ (s.1 3505) = 0
  · rw [br_eqt c1, if_pos c1]
    all_goals rfl
  · have o := o c1
    rw [br_eqf c1, if_neg c1]
    by_cases c2 : (s.1 3504) < 0
    · rw [br_eqt c2, if_pos c2]
      all_goals rfl
    · have o := o c2
      rw [br_eqf c2, if_neg c2]
      by_cases c3 : (s.1 3502) ≤ (s.1 3504)
      · rw [br_eqt c3, if_pos c3]
        all_goals rfl
      · have o := o c3
        rw [br_eqf c3, if_neg c3]
        rw [and_eqr o]
        all_goals rfl
def v_75 (p0 : Int32) (s : ST) : Int32 := (if p0 = (42 : Int32) then (1 : Int32) else (if p0 = (47 : Int32) then (1 : Int32) else (if ¬ p0 = (37 : Int32) then (0 : Int32) else (1 : Int32))))
theorem e_75 (p0 : Int32) (s : ST) {K : Int32 → ST → Prop} : w_75 p0 s K = K (v_75 p0 s) s := by
  unfold w_75 v_75
  by_cases c1 : p0 = (42 : Int32)
  · rw [br_eqt c1, if_pos c1]
    all_goals rfl
  · rw [br_eqf c1, if_neg c1]
    by_cases c2 : p0 = (47 : Int32)
    · rw [br_eqt c2, if_pos c2]
      all_goals rfl
    · rw [br_eqf c2, if_neg c2]
      by_cases c3 : ¬ p0 = (37 : Int32)
      · rw [br_eqt c3, if_pos c3]
        all_goals rfl
      · rw [br_eqf c3, if_neg c3]
        all_goals rfl
def v_288_F2  (s : ST) : Int32 := (1 : Int32)
theorem e_288_F2  (s : ST) {K : Int32 → ST → Prop} : w_288_F2  s K = K (v_288_F2  s) s := by
  unfold w_288_F2 v_288_F2
  all_goals rfl
def v_287_F2  (s : ST) : Int32 := (0 : Int32)
theorem e_287_F2  (s : ST) {K : Int32 → ST → Prop} : w_287_F2  s K = K (v_287_F2  s) s := by
  unfold w_287_F2 v_287_F2
  all_goals rfl
def v_284_F2  (s : ST) : Int32 := ((13 : Int32) >>> ((v_287_F2  s) &&& 31))
theorem e_284_F2  (s : ST) {K : Int32 → ST → Prop} : w_284_F2  s K = K (v_284_F2  s) s := by
  unfold w_284_F2 v_284_F2
  rw [e_287_F2  s]
  all_goals rfl
def v_289 (p0 : Int32) (s : ST) : Int32 := (if p0 < 0 then (0 : Int32) else (if (255 : Int32) < p0 then (0 : Int32) else (1 : Int32)))
theorem e_289 (p0 : Int32) (s : ST) {K : Int32 → ST → Prop} : w_289 p0 s K = K (v_289 p0 s) s := by
  unfold w_289 v_289
  by_cases c1 : p0 < 0
  · rw [br_eqt c1, if_pos c1]
    all_goals rfl
  · rw [br_eqf c1, if_neg c1]
    by_cases c2 : (255 : Int32) < p0
    · rw [br_eqt c2, if_pos c2]
      all_goals rfl
    · rw [br_eqf c2, if_neg c2]
      all_goals rfl
def v_79 (p0 : Int32) (s : ST) : Int32 := (if p0 < (48 : Int32) then (0 : Int32) else (if (57 : Int32) < p0 then (0 : Int32) else (1 : Int32)))
theorem e_79 (p0 : Int32) (s : ST) {K : Int32 → ST → Prop} : w_79 p0 s K = K (v_79 p0 s) s := by
  unfold w_79 v_79
  by_cases c1 : p0 < (48 : Int32)
  · rw [br_eqt c1, if_pos c1]
    all_goals rfl
  · rw [br_eqf c1, if_neg c1]
    by_cases c2 : (57 : Int32) < p0
    · rw [br_eqt c2, if_pos c2]
      all_goals rfl
    · rw [br_eqf c2, if_neg c2]
      all_goals rfl
def v_64 (p0 : Int32) (s : ST) : Int32 := (if p0 = (114 : Int32) then (1 : Int32) else (if p0 = (108 : Int32) then (1 : Int32) else (if ¬ p0 = (120 : Int32) then (0 : Int32) else (1 : Int32))))
theorem e_64 (p0 : Int32) (s : ST) {K : Int32 → ST → Prop} : w_64 p0 s K = K (v_64 p0 s) s := by
  unfold w_64 v_64
  by_cases c1 : p0 = (114 : Int32)
  · rw [br_eqt c1, if_pos c1]
    all_goals rfl
  · rw [br_eqf c1, if_neg c1]
    by_cases c2 : p0 = (108 : Int32)
    · rw [br_eqt c2, if_pos c2]
      all_goals rfl
    · rw [br_eqf c2, if_neg c2]
      by_cases c3 : ¬ p0 = (120 : Int32)
      · rw [br_eqt c3, if_pos c3]
        all_goals rfl
      · rw [br_eqf c3, if_neg c3]
        all_goals rfl
def v_68 (p0 : Int32) (s : ST) : Int32 := (if p0 = (111 : Int32) then (4 : Int32) else (if p0 = (112 : Int32) then (1 : Int32) else (if p0 = (119 : Int32) then (2 : Int32) else (0 : Int32))))
theorem e_68 (p0 : Int32) (s : ST) {K : Int32 → ST → Prop} : w_68 p0 s K = K (v_68 p0 s) s := by
  unfold w_68 v_68
  by_cases c0 : p0 = (111 : Int32)
  · subst c0
    simp []
  by_cases c1 : p0 = (112 : Int32)
  · subst c1
    simp []
  by_cases c2 : p0 = (119 : Int32)
  · subst c2
    simp []
  simp [c0, c1, c2]
def v_90  (s : ST) : Int32 := ((1 : Int32) <<< ((s.1 2300) &&& 31))
theorem e_90  (s : ST) {K : Int32 → ST → Prop} : w_90  s K = K (v_90  s) s := by
  unfold w_90 v_90
  all_goals rfl
def v_98 (p1 : Int32) (s : ST) : Int32 := (if ¬ (v_9 p1 (0 : Int32) s) = (2 : Int32) then (0 : Int32) else (1 : Int32))
def ob_98 (p1 : Int32) (s : ST) : Prop := ob_9 p1 (0 : Int32) s
theorem e_98 (p1 : Int32) (s : ST) (o : ob_98 p1 s) {K : Int32 → ST → Prop} : w_98 p1 s K = K (v_98 p1 s) s := by
  unfold w_98 v_98
  unfold ob_98 at o
  rw [e_9 p1 (0 : Int32) s o]
  by_cases c1 : ¬ (v_9 p1 (0 : Int32) s) = (2 : Int32)
  · rw [br_eqt c1, if_pos c1]
    all_goals rfl
  · rw [br_eqf c1, if_neg c1]
    all_goals rfl
def v_100 (p0 : Int32) (p1 : Int32) (s : ST) : Int32 := (if ¬ p0 = p1 then (if p1 ≤ p0 then (p0 - (1 : Int32)) else p0) else (-1 : Int32))
theorem e_100 (p0 : Int32) (p1 : Int32) (s : ST) {K : Int32 → ST → Prop} : w_100 p0 p1 s K = K (v_100 p0 p1 s) s := by
  unfold w_100 v_100
  by_cases c1 : ¬ p0 = p1
  · rw [br_eqt c1, if_pos c1]
    by_cases c2 : p1 ≤ p0
    · rw [br_eqt c2, if_pos c2]
      all_goals rfl
    · rw [br_eqf c2, if_neg c2]
      all_goals rfl
  · rw [br_eqf c1, if_neg c1]
    all_goals rfl
def v_102 (p1 : Int32) (p2 : Int32) (s : ST) : Int32 := (if (v_181 ((p1 * (64 : Int32)) + p2) (0 : Int32) ((Int32.ofNat 576) - (1 : Int32)) s) = 0 then (0 : Int32) else ((s.2.1 48) (((p1 * (64 : Int32)) + p2)).toNatClampNeg))
def ob_102 (p1 : Int32) (p2 : Int32) (s : ST) : Prop := (¬ ((v_181 ((p1 * (64 : Int32)) + p2) (0 : Int32) ((Int32.ofNat 576) - (1 : Int32)) s) = 0) → pin ((p1 * (64 : Int32)) + p2) 576 = true)
theorem e_102 (p1 : Int32) (p2 : Int32) (s : ST) (o : ob_102 p1 p2 s) {K : Int32 → ST → Prop} : w_102 p1 p2 s K = K (v_102 p1 p2 s) s := by
  unfold w_102 v_102
  unfold ob_102 at o
  rw [e_181 ((p1 * (64 : Int32)) + p2) (0 : Int32) ((Int32.ofNat 576) - (1 : Int32)) s]
  by_cases c1 : (v_181 ((p1 * (64 : Int32)) + p2) (0 : Int32) ((Int32.ofNat 576) - (1 : Int32)) s) = 0
  · rw [br_eqt c1, if_pos c1]
    all_goals rfl
  · have o := o c1
    rw [br_eqf c1, if_neg c1]
    rw [and_eqr o]
    all_goals rfl
def v_104 (p0 : Int32) (p1 : Int32) (s : ST) : Int32 := ((p0 * (256 : Int32)) + (((p1 >>> ((p0 + (1 : Int32)) &&& 31)) <<< (p0 &&& 31)) ||| (p1 &&& (((1 : Int32) <<< (p0 &&& 31)) - (1 : Int32)))))
theorem e_104 (p0 : Int32) (p1 : Int32) (s : ST) {K : Int32 → ST → Prop} : w_104 p0 p1 s K = K (v_104 p0 p1 s) s := by
  unfold w_104 v_104
  all_goals rfl
def v_283 (p0 : Int32) (s : ST) : Int32 := ((((((((p0 - ((((p0).toUInt32 >>> (((1 : Int32)).toUInt32 &&& Int32.toUInt32 31)).toInt32) &&& (1431655765 : Int32))) &&& (858993459 : Int32)) + (((((p0 - ((((p0).toUInt32 >>> (((1 : Int32)).toUInt32 &&& Int32.toUInt32 31)).toInt32) &&& (1431655765 : Int32)))).toUInt32 >>> (((2 : Int32)).toUInt32 &&& Int32.toUInt32 31)).toInt32) &&& (858993459 : Int32))) + ((((((p0 - ((((p0).toUInt32 >>> (((1 : Int32)).toUInt32 &&& Int32.toUInt32 31)).toInt32) &&& (1431655765 : Int32))) &&& (858993459 : Int32)) + (((((p0 - ((((p0).toUInt32 >>> (((1 : Int32)).toUInt32 &&& Int32.toUInt32 31)).toInt32) &&& (1431655765 : Int32)))).toUInt32 >>> (((2 : Int32)).toUInt32 &&& Int32.toUInt32 31)).toInt32) &&& (858993459 : Int32)))).toUInt32 >>> (((4 : Int32)).toUInt32 &&& Int32.toUInt32 31)).toInt32)) &&& (252645135 : Int32)) + ((((((((p0 - ((((p0).toUInt32 >>> (((1 : Int32)).toUInt32 &&& Int32.toUInt32 31)).toInt32) &&& (1431655765 : Int32))) &&& (858993459 : Int32)) + (((((p0 - ((((p0).toUInt32 >>> (((1 : Int32)).toUInt32 &&& Int32.toUInt32 31)).toInt32) &&& (1431655765 : Int32)))).toUInt32 >>> (((2 : Int32)).toUInt32 &&& Int32.toUInt32 31)).toInt32) &&& (858993459 : Int32))) + ((((((p0 - ((((p0).toUInt32 >>> (((1 : Int32)).toUInt32 &&& Int32.toUInt32 31)).toInt32) &&& (1431655765 : Int32))) &&& (858993459 : Int32)) + (((((p0 - ((((p0).toUInt32 >>> (((1 : Int32)).toUInt32 &&& Int32.toUInt32 31)).toInt32) &&& (1431655765 : Int32)))).toUInt32 >>> (((2 : Int32)).toUInt32 &&& Int32.toUInt32 31)).toInt32) &&& (858993459 : Int32)))).toUInt32 >>> (((4 : Int32)).toUInt32 &&& Int32.toUInt32 31)).toInt32)) &&& (252645135 : Int32))).toUInt32 >>> (((8 : Int32)).toUInt32 &&& Int32.toUInt32 31)).toInt32)) + (((((((((p0 - ((((p0).toUInt32 >>> (((1 : Int32)).toUInt32 &&& Int32.toUInt32 31)).toInt32) &&& (1431655765 : Int32))) &&& (858993459 : Int32)) + (((((p0 - ((((p0).toUInt32 >>> (((1 : Int32)).toUInt32 &&& Int32.toUInt32 31)).toInt32) &&& (1431655765 : Int32)))).toUInt32 >>> (((2 : Int32)).toUInt32 &&& Int32.toUInt32 31)).toInt32) &&& (858993459 : Int32))) + ((((((p0 - ((((p0).toUInt32 >>> (((1 : Int32)).toUInt32 &&& Int32.toUInt32 31)).toInt32) &&& (1431655765 : Int32))) &&& (858993459 : Int32)) + (((((p0 - ((((p0).toUInt32 >>> (((1 : Int32)).toUInt32 &&& Int32.toUInt32 31)).toInt32) &&& (1431655765 : Int32)))).toUInt32 >>> (((2 : Int32)).toUInt32 &&& Int32.toUInt32 31)).toInt32) &&& (858993459 : Int32)))).toUInt32 >>> (((4 : Int32)).toUInt32 &&& Int32.toUInt32 31)).toInt32)) &&& (252645135 : Int32)) + ((((((((p0 - ((((p0).toUInt32 >>> (((1 : Int32)).toUInt32 &&& Int32.toUInt32 31)).toInt32) &&& (1431655765 : Int32))) &&& (858993459 : Int32)) + (((((p0 - ((((p0).toUInt32 >>> (((1 : Int32)).toUInt32 &&& Int32.toUInt32 31)).toInt32) &&& (1431655765 : Int32)))).toUInt32 >>> (((2 : Int32)).toUInt32 &&& Int32.toUInt32 31)).toInt32) &&& (858993459 : Int32))) + ((((((p0 - ((((p0).toUInt32 >>> (((1 : Int32)).toUInt32 &&& Int32.toUInt32 31)).toInt32) &&& (1431655765 : Int32))) &&& (858993459 : Int32)) + (((((p0 - ((((p0).toUInt32 >>> (((1 : Int32)).toUInt32 &&& Int32.toUInt32 31)).toInt32) &&& (1431655765 : Int32)))).toUInt32 >>> (((2 : Int32)).toUInt32 &&& Int32.toUInt32 31)).toInt32) &&& (858993459 : Int32)))).toUInt32 >>> (((4 : Int32)).toUInt32 &&& Int32.toUInt32 31)).toInt32)) &&& (252645135 : Int32))).toUInt32 >>> (((8 : Int32)).toUInt32 &&& Int32.toUInt32 31)).toInt32))).toUInt32 >>> (((16 : Int32)).toUInt32 &&& Int32.toUInt32 31)).toInt32)) &&& (63 : Int32))
theorem e_283 (p0 : Int32) (s : ST) {K : Int32 → ST → Prop} : w_283 p0 s K = K (v_283 p0 s) s := by
  unfold w_283 v_283
  all_goals rfl
def v_103 (p1 : Int32) (p2 : Int32) (s : ST) : Int32 := (if (v_181 (v_104 p1 p2 s) (0 : Int32) ((Int32.ofNat 2304) - (1 : Int32)) s) = 0 then (0 : Int32) else ((s.2.1 47) ((v_104 p1 p2 s)).toNatClampNeg))
def ob_103 (p1 : Int32) (p2 : Int32) (s : ST) : Prop := (¬ ((v_181 (v_104 p1 p2 s) (0 : Int32) ((Int32.ofNat 2304) - (1 : Int32)) s) = 0) → pin (v_104 p1 p2 s) 2304 = true)
theorem e_103 (p1 : Int32) (p2 : Int32) (s : ST) (o : ob_103 p1 p2 s) {K : Int32 → ST → Prop} : w_103 p1 p2 s K = K (v_103 p1 p2 s) s := by
  unfold w_103 v_103
  unfold ob_103 at o
  rw [e_104 p1 p2 s]
  rw [e_181 (v_104 p1 p2 s) (0 : Int32) ((Int32.ofNat 2304) - (1 : Int32)) s]
  by_cases c1 : (v_181 (v_104 p1 p2 s) (0 : Int32) ((Int32.ofNat 2304) - (1 : Int32)) s) = 0
  · rw [br_eqt c1, if_pos c1]
    all_goals rfl
  · have o := o c1
    rw [br_eqf c1, if_neg c1]
    rw [and_eqr o]
    all_goals rfl
def v_117 (p1 : Int32) (s : ST) : Int32 := (if (v_9 p1 (0 : Int32) s) = 0 then (((v_9 p1 (0 : Int32) s) * (20 : Int32)) + (v_9 p1 (2 : Int32) s)) else (if ¬ (v_9 p1 (0 : Int32) s) = (1 : Int32) then (-1 : Int32) else (((v_9 p1 (0 : Int32) s) * (20 : Int32)) + (v_9 p1 (2 : Int32) s))))
def ob_117 (p1 : Int32) (s : ST) : Prop := (ob_9 p1 (0 : Int32) s ∧ (((v_9 p1 (0 : Int32) s) = 0 → ob_9 p1 (2 : Int32) s) ∧ (¬ ((v_9 p1 (0 : Int32) s) = 0) → (¬ (¬ (v_9 p1 (0 : Int32) s) = (1 : Int32)) → ob_9 p1 (2 : Int32) s))))
theorem e_117 (p1 : Int32) (s : ST) (o : ob_117 p1 s) {K : Int32 → ST → Prop} : w_117 p1 s K = K (v_117 p1 s) s := by
  unfold w_117 v_117
  unfold ob_117 at o
  rw [e_9 p1 (0 : Int32) s o.1]
  have o := o.2
  by_cases c1 : (v_9 p1 (0 : Int32) s) = 0
  · have o := o.1 c1
    rw [br_eqt c1, if_pos c1]
    rw [e_9 p1 (2 : Int32) s o]
    all_goals rfl
  · have o := o.2 c1
    rw [br_eqf c1, if_neg c1]
    by_cases c2 : ¬ (v_9 p1 (0 : Int32) s) = (1 : Int32)
    · rw [br_eqt c2, if_pos c2]
      all_goals rfl
    · have o := o c2
      rw [br_eqf c2, if_neg c2]
      rw [e_9 p1 (2 : Int32) s o]
      all_goals rfl
def v_114 (p1 : Int32) (s : ST) : Int32 := (v_9 (v_123 p1 s) (3 : Int32) s)
def ob_114 (p1 : Int32) (s : ST) : Prop := (ob_123 p1 s ∧ ob_9 (v_123 p1 s) (3 : Int32) s)
theorem e_114 (p1 : Int32) (s : ST) (o : ob_114 p1 s) {K : Int32 → ST → Prop} : w_114 p1 s K = K (v_114 p1 s) s := by
  unfold w_114 v_114
  unfold ob_114 at o
  rw [e_123 p1 s o.1]
  have o := o.2
  rw [e_9 (v_123 p1 s) (3 : Int32) s o]
  all_goals rfl
def v_130 (p1 : Int32) (p2 : Int32) (p3 : Int32) (s : ST) : Int32 := (if ¬ p1 = (3 : Int32) then (if ¬ p1 = (2 : Int32) then (v_181 p3 (0 : Int32) (19 : Int32) s) else (if (v_1 p3 s) = 0 then (0 : Int32) else (if p3 = p2 then (0 : Int32) else (1 : Int32)))) else (if ¬ p3 = (-1 : Int32) then (0 : Int32) else (1 : Int32)))
theorem e_130 (p1 : Int32) (p2 : Int32) (p3 : Int32) (s : ST) {K : Int32 → ST → Prop} : w_130 p1 p2 p3 s K = K (v_130 p1 p2 p3 s) s := by
  unfold w_130 v_130
  by_cases c1 : ¬ p1 = (3 : Int32)
  · rw [br_eqt c1, if_pos c1]
    by_cases c2 : ¬ p1 = (2 : Int32)
    · rw [br_eqt c2, if_pos c2]
      rw [e_181 p3 (0 : Int32) (19 : Int32) s]
      all_goals rfl
    · rw [br_eqf c2, if_neg c2]
      rw [e_1 p3 s]
      by_cases c3 : (v_1 p3 s) = 0
      · rw [br_eqt c3, if_pos c3]
        all_goals rfl
      · rw [br_eqf c3, if_neg c3]
        by_cases c4 : p3 = p2
        · rw [br_eqt c4, if_pos c4]
          all_goals rfl
        · rw [br_eqf c4, if_neg c4]
          all_goals rfl
  · rw [br_eqf c1, if_neg c1]
    by_cases c5 : ¬ p3 = (-1 : Int32)
    · rw [br_eqt c5, if_pos c5]
      all_goals rfl
    · rw [br_eqf c5, if_neg c5]
      all_goals rfl
def v_183 (p0 : Int32) (s : ST) : Int32 := (v_181 p0 (0 : Int32) (15 : Int32) s)
theorem e_183 (p0 : Int32) (s : ST) {K : Int32 → ST → Prop} : w_183 p0 s K = K (v_183 p0 s) s := by
  unfold w_183 v_183
  rw [e_181 p0 (0 : Int32) (15 : Int32) s]
  all_goals rfl
def v_182 (p0 : Int32) (s : ST) : Int32 := (v_181 p0 (0 : Int32) (3999 : Int32) s)
theorem e_182 (p0 : Int32) (s : ST) {K : Int32 → ST → Prop} : w_182 p0 s K = K (v_182 p0 s) s := by
  unfold w_182 v_182
  rw [e_181 p0 (0 : Int32) (3999 : Int32) s]
  all_goals rfl
def v_136 (p1 : Int32) (p2 : Int32) (s : ST) : Int32 := (if (v_181 p1 (1 : Int32) p2 s) = 0 then (0 : Int32) else (if (s.1 7) < p1 then (0 : Int32) else (1 : Int32)))
theorem e_136 (p1 : Int32) (p2 : Int32) (s : ST) {K : Int32 → ST → Prop} : w_136 p1 p2 s K = K (v_136 p1 p2 s) s := by
  unfold w_136 v_136
  rw [e_181 p1 (1 : Int32) p2 s]
  by_cases c1 : (v_181 p1 (1 : Int32) p2 s) = 0
  · rw [br_eqt c1, if_pos c1]
    all_goals rfl
  · rw [br_eqf c1, if_neg c1]
    by_cases c2 : (s.1 7) < p1
    · rw [br_eqt c2, if_pos c2]
      all_goals rfl
    · rw [br_eqf c2, if_neg c2]
      all_goals rfl
def v_297_R22  (s : ST) : Int32 := (s.1 2202)
theorem e_297_R22  (s : ST) {K : Int32 → ST → Prop} : w_297_R22  s K = K (v_297_R22  s) s := by
  unfold w_297_R22 v_297_R22
  all_goals rfl
def v_162 (p0 : Int32) (p1 : Int32) (s : ST) : Int32 := (if p1 = 0 then (if (v_183 p0 s) = 0 then (-1 : Int32) else p0) else (if (v_181 p0 (0 : Int32) (19 : Int32) s) = 0 then (-1 : Int32) else ((16 : Int32) + p0)))
theorem e_162 (p0 : Int32) (p1 : Int32) (s : ST) {K : Int32 → ST → Prop} : w_162 p0 p1 s K = K (v_162 p0 p1 s) s := by
  unfold w_162 v_162
  by_cases c1 : p1 = 0
  · rw [br_eqt c1, if_pos c1]
    rw [e_183 p0 s]
    by_cases c2 : (v_183 p0 s) = 0
    · rw [br_eqt c2, if_pos c2]
      all_goals rfl
    · rw [br_eqf c2, if_neg c2]
      all_goals rfl
  · rw [br_eqf c1, if_neg c1]
    rw [e_181 p0 (0 : Int32) (19 : Int32) s]
    by_cases c3 : (v_181 p0 (0 : Int32) (19 : Int32) s) = 0
    · rw [br_eqt c3, if_pos c3]
      all_goals rfl
    · rw [br_eqf c3, if_neg c3]
      all_goals rfl
def v_171 (p1 : Int32) (s : ST) : Int32 := (if (v_181 p1 (0 : Int32) ((s.1 13) - (1 : Int32)) s) = 0 then (0 : Int32) else (if (60 : Int32) ≤ p1 then (0 : Int32) else (1 : Int32)))
theorem e_171 (p1 : Int32) (s : ST) {K : Int32 → ST → Prop} : w_171 p1 s K = K (v_171 p1 s) s := by
  unfold w_171 v_171
  rw [e_181 p1 (0 : Int32) ((s.1 13) - (1 : Int32)) s]
  by_cases c1 : (v_181 p1 (0 : Int32) ((s.1 13) - (1 : Int32)) s) = 0
  · rw [br_eqt c1, if_pos c1]
    all_goals rfl
  · rw [br_eqf c1, if_neg c1]
    by_cases c2 : (60 : Int32) ≤ p1
    · rw [br_eqt c2, if_pos c2]
      all_goals rfl
    · rw [br_eqf c2, if_neg c2]
      all_goals rfl
def v_178 (p1 : Int32) (p2 : Int32) (s : ST) : Int32 := (v_9 p1 p2 s)
def ob_178 (p1 : Int32) (p2 : Int32) (s : ST) : Prop := ob_9 p1 p2 s
theorem e_178 (p1 : Int32) (p2 : Int32) (s : ST) (o : ob_178 p1 p2 s) {K : Int32 → ST → Prop} : w_178 p1 p2 s K = K (v_178 p1 p2 s) s := by
  unfold w_178 v_178
  unfold ob_178 at o
  rw [e_9 p1 p2 s o]
  all_goals rfl
def v_186 (p0 : Int32) (p1 : Int32) (p2 : Int32) (s : ST) : Int32 := (if p0 < p1 then (0 : Int32) else (if p2 < p0 then (0 : Int32) else (1 : Int32)))
theorem e_186 (p0 : Int32) (p1 : Int32) (p2 : Int32) (s : ST) {K : Int32 → ST → Prop} : w_186 p0 p1 p2 s K = K (v_186 p0 p1 p2 s) s := by
  unfold w_186 v_186
  by_cases c1 : p0 < p1
  · rw [br_eqt c1, if_pos c1]
    all_goals rfl
  · rw [br_eqf c1, if_neg c1]
    by_cases c2 : p2 < p0
    · rw [br_eqt c2, if_pos c2]
      all_goals rfl
    · rw [br_eqf c2, if_neg c2]
      all_goals rfl
def v_187 (p0 : Int32) (s : ST) : Int32 := (if p0 < 0 then (0 : Int32) else (if (3999 : Int32) < p0 then (0 : Int32) else (1 : Int32)))
theorem e_187 (p0 : Int32) (s : ST) {K : Int32 → ST → Prop} : w_187 p0 s K = K (v_187 p0 s) s := by
  unfold w_187 v_187
  by_cases c1 : p0 < 0
  · rw [br_eqt c1, if_pos c1]
    all_goals rfl
  · rw [br_eqf c1, if_neg c1]
    by_cases c2 : (3999 : Int32) < p0
    · rw [br_eqt c2, if_pos c2]
      all_goals rfl
    · rw [br_eqf c2, if_neg c2]
      all_goals rfl
def v_189 (p1 : Int32) (s : ST) : Int32 := (if p1 < 0 then (0 : Int32) else (if (s.1 5501) ≤ p1 then (0 : Int32) else (1 : Int32)))
theorem e_189 (p1 : Int32) (s : ST) {K : Int32 → ST → Prop} : w_189 p1 s K = K (v_189 p1 s) s := by
  unfold w_189 v_189
  by_cases c1 : p1 < 0
  · rw [br_eqt c1, if_pos c1]
    all_goals rfl
  · rw [br_eqf c1, if_neg c1]
    by_cases c2 : (s.1 5501) ≤ p1
    · rw [br_eqt c2, if_pos c2]
      all_goals rfl
    · rw [br_eqf c2, if_neg c2]
      all_goals rfl
def v_190 (p1 : Int32) (s : ST) : Int32 := (if p1 < 0 then (0 : Int32) else (if (s.1 5502) ≤ p1 then (0 : Int32) else (1 : Int32)))
theorem e_190 (p1 : Int32) (s : ST) {K : Int32 → ST → Prop} : w_190 p1 s K = K (v_190 p1 s) s := by
  unfold w_190 v_190
  by_cases c1 : p1 < 0
  · rw [br_eqt c1, if_pos c1]
    all_goals rfl
  · rw [br_eqf c1, if_neg c1]
    by_cases c2 : (s.1 5502) ≤ p1
    · rw [br_eqt c2, if_pos c2]
      all_goals rfl
    · rw [br_eqf c2, if_neg c2]
      all_goals rfl
def v_191 (p0 : Int32) (s : ST) : Int32 := (if p0 < 0 then (0 : Int32) else (if (16 : Int32) ≤ p0 then (0 : Int32) else (1 : Int32)))
theorem e_191 (p0 : Int32) (s : ST) {K : Int32 → ST → Prop} : w_191 p0 s K = K (v_191 p0 s) s := by
  unfold w_191 v_191
  by_cases c1 : p0 < 0
  · rw [br_eqt c1, if_pos c1]
    all_goals rfl
  · rw [br_eqf c1, if_neg c1]
    by_cases c2 : (16 : Int32) ≤ p0
    · rw [br_eqt c2, if_pos c2]
      all_goals rfl
    · rw [br_eqf c2, if_neg c2]
      all_goals rfl
def v_196 (p1 : Int32) (p2 : Int32) (s : ST) : Int32 := (if ((s.2.1 60) (p1).toNatClampNeg) = ((s.2.1 60) (p2).toNatClampNeg) then (if ((s.2.1 61) (p1).toNatClampNeg) = ((s.2.1 61) (p2).toNatClampNeg) then (if p2 ≤ p1 then (0 : Int32) else (1 : Int32)) else (if ((s.2.1 61) (p2).toNatClampNeg) ≤ ((s.2.1 61) (p1).toNatClampNeg) then (0 : Int32) else (1 : Int32))) else (if ((s.2.1 60) (p2).toNatClampNeg) ≤ ((s.2.1 60) (p1).toNatClampNeg) then (0 : Int32) else (1 : Int32)))
def ob_196 (p1 : Int32) (p2 : Int32) (s : ST) : Prop := (pin p1 150 = true ∧ (pin p2 150 = true ∧ ((((s.2.1 60) (p1).toNatClampNeg) = ((s.2.1 60) (p2).toNatClampNeg) → (pin p1 150 = true ∧ (pin p2 150 = true ∧ (¬ (((s.2.1 61) (p1).toNatClampNeg) = ((s.2.1 61) (p2).toNatClampNeg)) → (pin p1 150 = true ∧ pin p2 150 = true))))) ∧ (¬ (((s.2.1 60) (p1).toNatClampNeg) = ((s.2.1 60) (p2).toNatClampNeg)) → (pin p1 150 = true ∧ pin p2 150 = true)))))
theorem e_196 (p1 : Int32) (p2 : Int32) (s : ST) (o : ob_196 p1 p2 s) {K : Int32 → ST → Prop} : w_196 p1 p2 s K = K (v_196 p1 p2 s) s := by
  unfold w_196 v_196
  unfold ob_196 at o
  rw [and_eqr o.1]
  have o := o.2
  rw [and_eqr o.1]
  have o := o.2
  by_cases c1 : ((s.2.1 60) (p1).toNatClampNeg) = ((s.2.1 60) (p2).toNatClampNeg)
  · have o := o.1 c1
    rw [br_eqt c1, if_pos c1]
    rw [and_eqr o.1]
    have o := o.2
    rw [and_eqr o.1]
    have o := o.2
    by_cases c2 : ((s.2.1 61) (p1).toNatClampNeg) = ((s.2.1 61) (p2).toNatClampNeg)
    · rw [br_eqt c2, if_pos c2]
      by_cases c3 : p2 ≤ p1
      · rw [br_eqt c3, if_pos c3]
        all_goals rfl
      · rw [br_eqf c3, if_neg c3]
        all_goals rfl
    · have o := o c2
      rw [br_eqf c2, if_neg c2]
      rw [and_eqr o.1]
      have o := o.2
      rw [and_eqr o]
      by_cases c4 : ((s.2.1 61) (p2).toNatClampNeg) ≤ ((s.2.1 61) (p1).toNatClampNeg)
      · rw [br_eqt c4, if_pos c4]
        all_goals rfl
      · rw [br_eqf c4, if_neg c4]
        all_goals rfl
  · have o := o.2 c1
    rw [br_eqf c1, if_neg c1]
    rw [and_eqr o.1]
    have o := o.2
    rw [and_eqr o]
    by_cases c5 : ((s.2.1 60) (p2).toNatClampNeg) ≤ ((s.2.1 60) (p1).toNatClampNeg)
    · rw [br_eqt c5, if_pos c5]
      all_goals rfl
    · rw [br_eqf c5, if_neg c5]
      all_goals rfl
def v_202  (s : ST) : Int32 := (if (s.1 5527) ≤ (s.1 5526) then (-1 : Int32) else (((s.2.1 75) ((s.1 5526)).toNatClampNeg) &&& (255 : Int32)))
def ob_202  (s : ST) : Prop := (¬ ((s.1 5527) ≤ (s.1 5526)) → pin (s.1 5526) 200 = true)
theorem e_202  (s : ST) (o : ob_202  s) {K : Int32 → ST → Prop} : w_202  s K = K (v_202  s) s := by
  unfold w_202 v_202
  unfold ob_202 at o
  by_cases c1 : (s.1 5527) ≤ (s.1 5526)
  · rw [br_eqt c1, if_pos c1]
    all_goals rfl
  · have o := o c1
    rw [br_eqf c1, if_neg c1]
    rw [and_eqr o]
    all_goals rfl
def v_203  (s : ST) : Int32 := (if (v_202  s) < (48 : Int32) then (0 : Int32) else (if (57 : Int32) < (v_202  s) then (0 : Int32) else (1 : Int32)))
def ob_203  (s : ST) : Prop := (ob_202  s ∧ (¬ ((v_202  s) < (48 : Int32)) → ob_202  s))
theorem e_203  (s : ST) (o : ob_203  s) {K : Int32 → ST → Prop} : w_203  s K = K (v_203  s) s := by
  unfold w_203 v_203
  unfold ob_203 at o
  rw [e_202  s o.1]
  have o := o.2
  by_cases c1 : (v_202  s) < (48 : Int32)
  · rw [br_eqt c1, if_pos c1]
    all_goals rfl
  · have o := o c1
    rw [br_eqf c1, if_neg c1]
    rw [e_202  s o]
    by_cases c2 : (57 : Int32) < (v_202  s)
    · rw [br_eqt c2, if_pos c2]
      all_goals rfl
    · rw [br_eqf c2, if_neg c2]
      all_goals rfl
def v_209  (s : ST) : Int32 := (if ¬ (s.1 5531) = 0 then (((s.2.1 77) (((s.1 5531) - (1 : Int32))).toNatClampNeg) / (16777216 : Int32)) else (-1 : Int32))
def ob_209  (s : ST) : Prop := (¬ (s.1 5531) = 0 → (pin ((s.1 5531) - (1 : Int32)) 180 = true ∧ ¬ (16777216 : Int32) = 0))
theorem e_209  (s : ST) (o : ob_209  s) {K : Int32 → ST → Prop} : w_209  s K = K (v_209  s) s := by
  unfold w_209 v_209
  unfold ob_209 at o
  by_cases c1 : ¬ (s.1 5531) = 0
  · have o := o c1
    rw [br_eqt c1, if_pos c1]
    rw [and_eqr o.1]
    have o := o.2
    rw [and_eqr o]
    all_goals rfl
  · rw [br_eqf c1, if_neg c1]
    all_goals rfl
def v_210 (p0 : Int32) (s : ST) : Int32 := (if p0 = (97 : Int32) then (10 : Int32) else (if p0 = (98 : Int32) then (-1 : Int32) else (if p0 = (99 : Int32) then (-1 : Int32) else (if p0 = (100 : Int32) then (2 : Int32) else (if p0 = (101 : Int32) then (7 : Int32) else (if p0 = (102 : Int32) then (-1 : Int32) else (if p0 = (103 : Int32) then (-1 : Int32) else (if p0 = (104 : Int32) then (3 : Int32) else (if p0 = (105 : Int32) then (-1 : Int32) else (if p0 = (106 : Int32) then (-1 : Int32) else (if p0 = (107 : Int32) then (0 : Int32) else (if p0 = (108 : Int32) then (-1 : Int32) else (if p0 = (109 : Int32) then (-1 : Int32) else (if p0 = (110 : Int32) then (11 : Int32) else (if p0 = (111 : Int32) then (6 : Int32) else (if p0 = (112 : Int32) then (8 : Int32) else (if p0 = (113 : Int32) then (9 : Int32) else (if p0 = (114 : Int32) then (-1 : Int32) else (if p0 = (115 : Int32) then (1 : Int32) else (if p0 = (116 : Int32) then (12 : Int32) else (if p0 = (117 : Int32) then (-1 : Int32) else (if p0 = (118 : Int32) then (5 : Int32) else (if p0 = (119 : Int32) then (4 : Int32) else (-1 : Int32))))))))))))))))))))))))
def v_211 (p0 : Int32) (s : ST) : Int32 := (if ¬ p0 = (43 : Int32) then (if ¬ p0 = (45 : Int32) then (if ¬ p0 = (42 : Int32) then (if ¬ p0 = (47 : Int32) then (if ¬ p0 = (37 : Int32) then (-1 : Int32) else (6 : Int32)) else (5 : Int32)) else (4 : Int32)) else (3 : Int32)) else (2 : Int32))
theorem e_211 (p0 : Int32) (s : ST) {K : Int32 → ST → Prop} : w_211 p0 s K = K (v_211 p0 s) s := by
  unfold w_211 v_211
  by_cases c1 : ¬ p0 = (43 : Int32)
  · rw [br_eqt c1, if_pos c1]
    by_cases c2 : ¬ p0 = (45 : Int32)
    · rw [br_eqt c2, if_pos c2]
      by_cases c3 : ¬ p0 = (42 : Int32)
      · rw [br_eqt c3, if_pos c3]
        by_cases c4 : ¬ p0 = (47 : Int32)
        · rw [br_eqt c4, if_pos c4]
          by_cases c5 : ¬ p0 = (37 : Int32)
          · rw [br_eqt c5, if_pos c5]
            all_goals rfl
          · rw [br_eqf c5, if_neg c5]
            all_goals rfl
        · rw [br_eqf c4, if_neg c4]
          all_goals rfl
      · rw [br_eqf c3, if_neg c3]
        all_goals rfl
    · rw [br_eqf c2, if_neg c2]
      all_goals rfl
  · rw [br_eqf c1, if_neg c1]
    all_goals rfl
def v_222 (p0 : Int32) (s : ST) : Int32 := (if ¬ p0 = (112 : Int32) then (if ¬ p0 = (119 : Int32) then (if ¬ p0 = (111 : Int32) then (0 : Int32) else (4 : Int32)) else (2 : Int32)) else (1 : Int32))
theorem e_222 (p0 : Int32) (s : ST) {K : Int32 → ST → Prop} : w_222 p0 s K = K (v_222 p0 s) s := by
  unfold w_222 v_222
  by_cases c1 : ¬ p0 = (112 : Int32)
  · rw [br_eqt c1, if_pos c1]
    by_cases c2 : ¬ p0 = (119 : Int32)
    · rw [br_eqt c2, if_pos c2]
      by_cases c3 : ¬ p0 = (111 : Int32)
      · rw [br_eqt c3, if_pos c3]
        all_goals rfl
      · rw [br_eqf c3, if_neg c3]
        all_goals rfl
    · rw [br_eqf c2, if_neg c2]
      all_goals rfl
  · rw [br_eqf c1, if_neg c1]
    all_goals rfl
def v_228 (p1 : Int32) (s : ST) : Int32 := (if ¬ ((s.2.1 64) (p1).toNatClampNeg) = (s.1 5552) then ((s.2.1 64) (p1).toNatClampNeg) else (-1 : Int32))
def ob_228 (p1 : Int32) (s : ST) : Prop := (pin p1 150 = true ∧ (¬ ((s.2.1 64) (p1).toNatClampNeg) = (s.1 5552) → pin p1 150 = true))
theorem e_228 (p1 : Int32) (s : ST) (o : ob_228 p1 s) {K : Int32 → ST → Prop} : w_228 p1 s K = K (v_228 p1 s) s := by
  unfold w_228 v_228
  unfold ob_228 at o
  rw [and_eqr o.1]
  have o := o.2
  by_cases c1 : ¬ ((s.2.1 64) (p1).toNatClampNeg) = (s.1 5552)
  · have o := o c1
    rw [br_eqt c1, if_pos c1]
    rw [and_eqr o]
    all_goals rfl
  · rw [br_eqf c1, if_neg c1]
    all_goals rfl
def v_229 (p1 : Int32) (s : ST) : Int32 := (if ((s.2.1 57) (p1).toNatClampNeg) = 0 then ((s.2.1 59) (p1).toNatClampNeg) else (if ¬ ((s.2.1 57) (p1).toNatClampNeg) = (1 : Int32) then (-1 : Int32) else ((s.2.1 59) (p1).toNatClampNeg)))
def ob_229 (p1 : Int32) (s : ST) : Prop := (pin p1 150 = true ∧ ((((s.2.1 57) (p1).toNatClampNeg) = 0 → pin p1 150 = true) ∧ (¬ (((s.2.1 57) (p1).toNatClampNeg) = 0) → (pin p1 150 = true ∧ (¬ (¬ ((s.2.1 57) (p1).toNatClampNeg) = (1 : Int32)) → pin p1 150 = true)))))
theorem e_229 (p1 : Int32) (s : ST) (o : ob_229 p1 s) {K : Int32 → ST → Prop} : w_229 p1 s K = K (v_229 p1 s) s := by
  unfold w_229 v_229
  unfold ob_229 at o
  rw [and_eqr o.1]
  have o := o.2
  by_cases c1 : ((s.2.1 57) (p1).toNatClampNeg) = 0
  · have o := o.1 c1
    rw [br_eqt c1, if_pos c1]
    rw [and_eqr o]
    all_goals rfl
  · have o := o.2 c1
    rw [br_eqf c1, if_neg c1]
    rw [and_eqr o.1]
    have o := o.2
    by_cases c2 : ¬ ((s.2.1 57) (p1).toNatClampNeg) = (1 : Int32)
    · rw [br_eqt c2, if_pos c2]
      all_goals rfl
    · have o := o c2
      rw [br_eqf c2, if_neg c2]
      rw [and_eqr o]
      all_goals rfl
def v_231 (p0 : Int32) (p1 : Int64) (p2 : Int64) (s : ST) : Int64 := (if p0 = (2 : Int32) then (p1 + p2) else (if p0 = (3 : Int32) then (p1 - p2) else (if p0 = (4 : Int32) then (p1 * p2) else (if p0 = (5 : Int32) then (p1 / p2) else (if p0 = (6 : Int32) then (p1 - p1 / p2 * p2) else (if p0 = (7 : Int32) then (if 0 ≤ (lg_cmp p1 p2) then (0 : Int64) else (1 : Int64)) else (if p0 = (8 : Int32) then (if (lg_cmp p1 p2) ≤ 0 then (0 : Int64) else (1 : Int64)) else (if ¬ (lg_cmp p1 p2) = 0 then (0 : Int64) else (1 : Int64)))))))))
def ob_231 (p0 : Int32) (p1 : Int64) (p2 : Int64) (s : ST) : Prop := ((p0 = (5 : Int32) → ¬ p2 = 0) ∧ (p0 = (6 : Int32) → ¬ p2 = 0))
def v_233 (p1 : Int32) (p2 : Int32) (s : ST) : Int32 := (v_186 p2 ((s.2.1 84) (p1).toNatClampNeg) ((s.2.1 85) (p1).toNatClampNeg) s)
def ob_233 (p1 : Int32) (p2 : Int32) (s : ST) : Prop := (pin p1 20 = true ∧ pin p1 20 = true)
theorem e_233 (p1 : Int32) (p2 : Int32) (s : ST) (o : ob_233 p1 p2 s) {K : Int32 → ST → Prop} : w_233 p1 p2 s K = K (v_233 p1 p2 s) s := by
  unfold w_233 v_233
  unfold ob_233 at o
  rw [and_eqr o.1]
  have o := o.2
  rw [and_eqr o]
  rw [e_186 p2 ((s.2.1 84) (p1).toNatClampNeg) ((s.2.1 85) (p1).toNatClampNeg) s]
  all_goals rfl
def v_253 (p1 : Int32) (p2 : Int32) (p3 : Int32) (s : ST) : Int32 := (if ¬ (((s.2.1 90) ((((10 : Int32) * ((20 : Int32) + p1)) + p2)).toNatClampNeg) &&& (1 : Int32)) = (1 : Int32) then (if ¬ (((s.2.1 90) ((((10 : Int32) * ((20 : Int32) + p1)) + p2)).toNatClampNeg) &&& (2 : Int32)) = (2 : Int32) then (if (((s.2.1 90) ((((10 : Int32) * ((20 : Int32) + p1)) + p2)).toNatClampNeg) &&& (4 : Int32)) = 0 then (1 : Int32) else (if ¬ ((s.2.1 58) (p3).toNatClampNeg) = ((s.2.1 58) (((s.2.1 103) ((0 : Int32)).toNatClampNeg)).toNatClampNeg) then (0 : Int32) else (1 : Int32))) else (if ((s.2.1 63) (p3).toNatClampNeg) = ((s.2.1 63) (((s.2.1 103) ((0 : Int32)).toNatClampNeg)).toNatClampNeg) then (if (((s.2.1 90) ((((10 : Int32) * ((20 : Int32) + p1)) + p2)).toNatClampNeg) &&& (4 : Int32)) = 0 then (1 : Int32) else (if ¬ ((s.2.1 58) (p3).toNatClampNeg) = ((s.2.1 58) (((s.2.1 103) ((0 : Int32)).toNatClampNeg)).toNatClampNeg) then (0 : Int32) else (1 : Int32))) else (0 : Int32))) else (if (v_229 p3 s) = (v_229 ((s.2.1 103) ((0 : Int32)).toNatClampNeg) s) then (if ¬ (((s.2.1 90) ((((10 : Int32) * ((20 : Int32) + p1)) + p2)).toNatClampNeg) &&& (2 : Int32)) = (2 : Int32) then (if (((s.2.1 90) ((((10 : Int32) * ((20 : Int32) + p1)) + p2)).toNatClampNeg) &&& (4 : Int32)) = 0 then (1 : Int32) else (if ¬ ((s.2.1 58) (p3).toNatClampNeg) = ((s.2.1 58) (((s.2.1 103) ((0 : Int32)).toNatClampNeg)).toNatClampNeg) then (0 : Int32) else (1 : Int32))) else (if ((s.2.1 63) (p3).toNatClampNeg) = ((s.2.1 63) (((s.2.1 103) ((0 : Int32)).toNatClampNeg)).toNatClampNeg) then (if (((s.2.1 90) ((((10 : Int32) * ((20 : Int32) + p1)) + p2)).toNatClampNeg) &&& (4 : Int32)) = 0 then (1 : Int32) else (if ¬ ((s.2.1 58) (p3).toNatClampNeg) = ((s.2.1 58) (((s.2.1 103) ((0 : Int32)).toNatClampNeg)).toNatClampNeg) then (0 : Int32) else (1 : Int32))) else (0 : Int32))) else (0 : Int32)))
def ob_253 (p1 : Int32) (p2 : Int32) (p3 : Int32) (s : ST) : Prop := (pin (((10 : Int32) * ((20 : Int32) + p1)) + p2) 260 = true ∧ (pin (0 : Int32) 6 = true ∧ ((¬ (((s.2.1 90) ((((10 : Int32) * ((20 : Int32) + p1)) + p2)).toNatClampNeg) &&& (1 : Int32)) = (1 : Int32) → ((¬ (((s.2.1 90) ((((10 : Int32) * ((20 : Int32) + p1)) + p2)).toNatClampNeg) &&& (2 : Int32)) = (2 : Int32) → (¬ ((((s.2.1 90) ((((10 : Int32) * ((20 : Int32) + p1)) + p2)).toNatClampNeg) &&& (4 : Int32)) = 0) → (pin p3 150 = true ∧ pin ((s.2.1 103) ((0 : Int32)).toNatClampNeg) 150 = true))) ∧ (¬ (¬ (((s.2.1 90) ((((10 : Int32) * ((20 : Int32) + p1)) + p2)).toNatClampNeg) &&& (2 : Int32)) = (2 : Int32)) → (pin p3 150 = true ∧ (pin ((s.2.1 103) ((0 : Int32)).toNatClampNeg) 150 = true ∧ (((s.2.1 63) (p3).toNatClampNeg) = ((s.2.1 63) (((s.2.1 103) ((0 : Int32)).toNatClampNeg)).toNatClampNeg) → (¬ ((((s.2.1 90) ((((10 : Int32) * ((20 : Int32) + p1)) + p2)).toNatClampNeg) &&& (4 : Int32)) = 0) → (pin p3 150 = true ∧ pin ((s.2.1 103) ((0 : Int32)).toNatClampNeg) 150 = true)))))))) ∧ (¬ (¬ (((s.2.1 90) ((((10 : Int32) * ((20 : Int32) + p1)) + p2)).toNatClampNeg) &&& (1 : Int32)) = (1 : Int32)) → (ob_229 p3 s ∧ (ob_229 ((s.2.1 103) ((0 : Int32)).toNatClampNeg) s ∧ ((v_229 p3 s) = (v_229 ((s.2.1 103) ((0 : Int32)).toNatClampNeg) s) → ((¬ (((s.2.1 90) ((((10 : Int32) * ((20 : Int32) + p1)) + p2)).toNatClampNeg) &&& (2 : Int32)) = (2 : Int32) → (¬ ((((s.2.1 90) ((((10 : Int32) * ((20 : Int32) + p1)) + p2)).toNatClampNeg) &&& (4 : Int32)) = 0) → (pin p3 150 = true ∧ pin ((s.2.1 103) ((0 : Int32)).toNatClampNeg) 150 = true))) ∧ (¬ (¬ (((s.2.1 90) ((((10 : Int32) * ((20 : Int32) + p1)) + p2)).toNatClampNeg) &&& (2 : Int32)) = (2 : Int32)) → (pin p3 150 = true ∧ (pin ((s.2.1 103) ((0 : Int32)).toNatClampNeg) 150 = true ∧ (((s.2.1 63) (p3).toNatClampNeg) = ((s.2.1 63) (((s.2.1 103) ((0 : Int32)).toNatClampNeg)).toNatClampNeg) → (¬ ((((s.2.1 90) ((((10 : Int32) * ((20 : Int32) + p1)) + p2)).toNatClampNeg) &&& (4 : Int32)) = 0) → (pin p3 150 = true ∧ pin ((s.2.1 103) ((0 : Int32)).toNatClampNeg) 150 = true))))))))))))))
theorem e_253 (p1 : Int32) (p2 : Int32) (p3 : Int32) (s : ST) (o : ob_253 p1 p2 p3 s) {K : Int32 → ST → Prop} : w_253 p1 p2 p3 s K = K (v_253 p1 p2 p3 s) s := by
  unfold w_253 v_253
  unfold ob_253 at o
  rw [and_eqr o.1]
  have o := o.2
  rw [and_eqr o.1]
  have o := o.2
  by_cases c1 : ¬ (((s.2.1 90) ((((10 : Int32) * ((20 : Int32) + p1)) + p2)).toNatClampNeg) &&& (1 : Int32)) = (1 : Int32)
  · have o := o.1 c1
    rw [br_eqt c1, if_pos c1]
    by_cases c2 : ¬ (((s.2.1 90) ((((10 : Int32) * ((20 : Int32) + p1)) + p2)).toNatClampNeg) &&& (2 : Int32)) = (2 : Int32)
    · have o := o.1 c2
      rw [br_eqt c2, if_pos c2]
      by_cases c3 : (((s.2.1 90) ((((10 : Int32) * ((20 : Int32) + p1)) + p2)).toNatClampNeg) &&& (4 : Int32)) = 0
      · rw [br_eqt c3, if_pos c3]
        all_goals rfl
      · have o := o c3
        rw [br_eqf c3, if_neg c3]
        rw [and_eqr o.1]
        have o := o.2
        rw [and_eqr o]
        by_cases c4 : ¬ ((s.2.1 58) (p3).toNatClampNeg) = ((s.2.1 58) (((s.2.1 103) ((0 : Int32)).toNatClampNeg)).toNatClampNeg)
        · rw [br_eqt c4, if_pos c4]
          all_goals rfl
        · rw [br_eqf c4, if_neg c4]
          all_goals rfl
    · have o := o.2 c2
      rw [br_eqf c2, if_neg c2]
      rw [and_eqr o.1]
      have o := o.2
      rw [and_eqr o.1]
      have o := o.2
      by_cases c5 : ((s.2.1 63) (p3).toNatClampNeg) = ((s.2.1 63) (((s.2.1 103) ((0 : Int32)).toNatClampNeg)).toNatClampNeg)
      · have o := o c5
        rw [br_eqt c5, if_pos c5]
        by_cases c6 : (((s.2.1 90) ((((10 : Int32) * ((20 : Int32) + p1)) + p2)).toNatClampNeg) &&& (4 : Int32)) = 0
        · rw [br_eqt c6, if_pos c6]
          all_goals rfl
        · have o := o c6
          rw [br_eqf c6, if_neg c6]
          rw [and_eqr o.1]
          have o := o.2
          rw [and_eqr o]
          by_cases c7 : ¬ ((s.2.1 58) (p3).toNatClampNeg) = ((s.2.1 58) (((s.2.1 103) ((0 : Int32)).toNatClampNeg)).toNatClampNeg)
          · rw [br_eqt c7, if_pos c7]
            all_goals rfl
          · rw [br_eqf c7, if_neg c7]
            all_goals rfl
      · rw [br_eqf c5, if_neg c5]
        all_goals rfl
  · have o := o.2 c1
    rw [br_eqf c1, if_neg c1]
    rw [e_229 p3 s o.1]
    have o := o.2
    rw [e_229 ((s.2.1 103) ((0 : Int32)).toNatClampNeg) s o.1]
    have o := o.2
    by_cases c8 : (v_229 p3 s) = (v_229 ((s.2.1 103) ((0 : Int32)).toNatClampNeg) s)
    · have o := o c8
      rw [br_eqt c8, if_pos c8]
      by_cases c9 : ¬ (((s.2.1 90) ((((10 : Int32) * ((20 : Int32) + p1)) + p2)).toNatClampNeg) &&& (2 : Int32)) = (2 : Int32)
      · have o := o.1 c9
        rw [br_eqt c9, if_pos c9]
        by_cases c10 : (((s.2.1 90) ((((10 : Int32) * ((20 : Int32) + p1)) + p2)).toNatClampNeg) &&& (4 : Int32)) = 0
        · rw [br_eqt c10, if_pos c10]
          all_goals rfl
        · have o := o c10
          rw [br_eqf c10, if_neg c10]
          rw [and_eqr o.1]
          have o := o.2
          rw [and_eqr o]
          by_cases c11 : ¬ ((s.2.1 58) (p3).toNatClampNeg) = ((s.2.1 58) (((s.2.1 103) ((0 : Int32)).toNatClampNeg)).toNatClampNeg)
          · rw [br_eqt c11, if_pos c11]
            all_goals rfl
          · rw [br_eqf c11, if_neg c11]
            all_goals rfl
      · have o := o.2 c9
        rw [br_eqf c9, if_neg c9]
        rw [and_eqr o.1]
        have o := o.2
        rw [and_eqr o.1]
        have o := o.2
        by_cases c12 : ((s.2.1 63) (p3).toNatClampNeg) = ((s.2.1 63) (((s.2.1 103) ((0 : Int32)).toNatClampNeg)).toNatClampNeg)
        · have o := o c12
          rw [br_eqt c12, if_pos c12]
          by_cases c13 : (((s.2.1 90) ((((10 : Int32) * ((20 : Int32) + p1)) + p2)).toNatClampNeg) &&& (4 : Int32)) = 0
          · rw [br_eqt c13, if_pos c13]
            all_goals rfl
          · have o := o c13
            rw [br_eqf c13, if_neg c13]
            rw [and_eqr o.1]
            have o := o.2
            rw [and_eqr o]
            by_cases c14 : ¬ ((s.2.1 58) (p3).toNatClampNeg) = ((s.2.1 58) (((s.2.1 103) ((0 : Int32)).toNatClampNeg)).toNatClampNeg)
            · rw [br_eqt c14, if_pos c14]
              all_goals rfl
            · rw [br_eqf c14, if_neg c14]
              all_goals rfl
        · rw [br_eqf c12, if_neg c12]
          all_goals rfl
    · rw [br_eqf c8, if_neg c8]
      all_goals rfl
def v_256 (p1 : Int32) (p2 : Int32) (p3 : Int32) (s : ST) : Int32 := (if p1 < 0 then (0 : Int32) else (if (s.1 5542) ≤ p1 then (0 : Int32) else (if (v_186 p2 (0 : Int32) (3999 : Int32) s) = 0 then (0 : Int32) else (if (v_186 p3 (0 : Int32) (4000000 : Int32) s) = 0 then (0 : Int32) else (1 : Int32)))))
theorem e_256 (p1 : Int32) (p2 : Int32) (p3 : Int32) (s : ST) {K : Int32 → ST → Prop} : w_256 p1 p2 p3 s K = K (v_256 p1 p2 p3 s) s := by
  unfold w_256 v_256
  by_cases c1 : p1 < 0
  · rw [br_eqt c1, if_pos c1]
    all_goals rfl
  · rw [br_eqf c1, if_neg c1]
    by_cases c2 : (s.1 5542) ≤ p1
    · rw [br_eqt c2, if_pos c2]
      all_goals rfl
    · rw [br_eqf c2, if_neg c2]
      rw [e_186 p2 (0 : Int32) (3999 : Int32) s]
      by_cases c3 : (v_186 p2 (0 : Int32) (3999 : Int32) s) = 0
      · rw [br_eqt c3, if_pos c3]
        all_goals rfl
      · rw [br_eqf c3, if_neg c3]
        rw [e_186 p3 (0 : Int32) (4000000 : Int32) s]
        by_cases c4 : (v_186 p3 (0 : Int32) (4000000 : Int32) s) = 0
        · rw [br_eqt c4, if_pos c4]
          all_goals rfl
        · rw [br_eqf c4, if_neg c4]
          all_goals rfl
def v_264 (p0 : Int32) (p1 : Int32) (s : ST) : Int32 := (if p0 < 0 then (0 : Int32) else (if p1 = 0 then (if (16 : Int32) ≤ p0 then (0 : Int32) else (1 : Int32)) else (if (20 : Int32) ≤ p0 then (0 : Int32) else (1 : Int32))))
theorem e_264 (p0 : Int32) (p1 : Int32) (s : ST) {K : Int32 → ST → Prop} : w_264 p0 p1 s K = K (v_264 p0 p1 s) s := by
  unfold w_264 v_264
  by_cases c1 : p0 < 0
  · rw [br_eqt c1, if_pos c1]
    all_goals rfl
  · rw [br_eqf c1, if_neg c1]
    by_cases c2 : p1 = 0
    · rw [br_eqt c2, if_pos c2]
      by_cases c3 : (16 : Int32) ≤ p0
      · rw [br_eqt c3, if_pos c3]
        all_goals rfl
      · rw [br_eqf c3, if_neg c3]
        all_goals rfl
    · rw [br_eqf c2, if_neg c2]
      by_cases c4 : (20 : Int32) ≤ p0
      · rw [br_eqt c4, if_pos c4]
        all_goals rfl
      · rw [br_eqf c4, if_neg c4]
        all_goals rfl
def v_271 (p1 : Int32) (s : ST) : Int32 := (if p1 < 0 then (0 : Int32) else (if (s.1 5578) ≤ p1 then (0 : Int32) else (1 : Int32)))
theorem e_271 (p1 : Int32) (s : ST) {K : Int32 → ST → Prop} : w_271 p1 s K = K (v_271 p1 s) s := by
  unfold w_271 v_271
  by_cases c1 : p1 < 0
  · rw [br_eqt c1, if_pos c1]
    all_goals rfl
  · rw [br_eqf c1, if_neg c1]
    by_cases c2 : (s.1 5578) ≤ p1
    · rw [br_eqt c2, if_pos c2]
      all_goals rfl
    · rw [br_eqf c2, if_neg c2]
      all_goals rfl
def v_281 (p1 : Int32) (p2 : Int32) (s : ST) : Int32 := (if ¬ (v_190 p1 s) = 0 then (if p2 = (0 : Int32) then ((s.2.1 57) (p1).toNatClampNeg) else (if p2 = (1 : Int32) then ((s.2.1 58) (p1).toNatClampNeg) else (if p2 = (2 : Int32) then ((s.2.1 59) (p1).toNatClampNeg) else (if p2 = (3 : Int32) then ((s.2.1 60) (p1).toNatClampNeg) else (if p2 = (4 : Int32) then ((s.2.1 61) (p1).toNatClampNeg) else (if p2 = (5 : Int32) then ((s.2.1 62) (p1).toNatClampNeg) else (if p2 = (6 : Int32) then ((s.2.1 63) (p1).toNatClampNeg) else (if p2 = (7 : Int32) then ((s.2.1 64) (p1).toNatClampNeg) else (if p2 = (8 : Int32) then ((s.2.1 65) (p1).toNatClampNeg) else (if p2 = (9 : Int32) then ((s.2.1 66) (p1).toNatClampNeg) else (if p2 = (10 : Int32) then ((s.2.1 67) (p1).toNatClampNeg) else (-1 : Int32)))))))))))) else (-1 : Int32))
def ob_281 (p1 : Int32) (p2 : Int32) (s : ST) : Prop := (¬ (v_190 p1 s) = 0 → ((p2 = (0 : Int32) → pin p1 150 = true) ∧ (p2 = (1 : Int32) → pin p1 150 = true) ∧ (p2 = (2 : Int32) → pin p1 150 = true) ∧ (p2 = (3 : Int32) → pin p1 150 = true) ∧ (p2 = (4 : Int32) → pin p1 150 = true) ∧ (p2 = (5 : Int32) → pin p1 150 = true) ∧ (p2 = (6 : Int32) → pin p1 150 = true) ∧ (p2 = (7 : Int32) → pin p1 150 = true) ∧ (p2 = (8 : Int32) → pin p1 150 = true) ∧ (p2 = (9 : Int32) → pin p1 150 = true) ∧ (p2 = (10 : Int32) → pin p1 150 = true)))
def v_282 (p1 : Int32) (s : ST) : Int32 := (if p1 = (0 : Int32) then (s.1 5500) else (if p1 = (1 : Int32) then (s.1 5501) else (if p1 = (2 : Int32) then (s.1 5502) else (if p1 = (3 : Int32) then (s.1 5541) else (if p1 = (4 : Int32) then (s.1 5503) else (if p1 = (5 : Int32) then (s.1 5542) else (if p1 = (6 : Int32) then (s.1 5578) else (if p1 = (7 : Int32) then (s.1 5579) else (if p1 = (8 : Int32) then (s.1 5525) else (if (v_186 p1 (20 : Int32) ((19 : Int32) + (s.1 5541)) s) = 0 then (if (v_186 p1 (40 : Int32) ((39 : Int32) + (s.1 5542)) s) = 0 then (-1 : Int32) else ((s.2.1 86) ((((20 : Int32) + p1) - (40 : Int32))).toNatClampNeg)) else ((s.2.1 86) ((p1 - (20 : Int32))).toNatClampNeg)))))))))))
def ob_282 (p1 : Int32) (s : ST) : Prop := ((¬ p1 = (0 : Int32) → ¬ p1 = (1 : Int32) → ¬ p1 = (2 : Int32) → ¬ p1 = (3 : Int32) → ¬ p1 = (4 : Int32) → ¬ p1 = (5 : Int32) → ¬ p1 = (6 : Int32) → ¬ p1 = (7 : Int32) → ¬ p1 = (8 : Int32) → (((v_186 p1 (20 : Int32) ((19 : Int32) + (s.1 5541)) s) = 0 → (¬ ((v_186 p1 (40 : Int32) ((39 : Int32) + (s.1 5542)) s) = 0) → pin (((20 : Int32) + p1) - (40 : Int32)) 26 = true)) ∧ (¬ ((v_186 p1 (20 : Int32) ((19 : Int32) + (s.1 5541)) s) = 0) → pin (p1 - (20 : Int32)) 26 = true))))
