/-! ===== the calls without loops; printed by wip/whole/geneasy.py ===== -/
theorem sp_0 {t : Nat} {s : ST} {X F : ST → Prop} (a1 : Int32) (h : J t s) (hX : ∀ s1, J (t + 1) s1 → X s1) : st_0 a1 s X F := by
  obtain ⟨hnow, hhou, hrow, hord, hmen, htap, hthi, hjud, hask, hrea, hsca, hvie, hrul, hrnd, hroo⟩ := h
  simp only [st_0, w_127, w_188, e_181, e_186, t_181, t_186, sI_1, sI_2, sA_1, sA_21, sA_22, va_ap, upd_ap, Nat.reduceEqDiff, if_true, if_false, Int32.reduceToInt, hnow.1]
  by_cases c : (s.1 5500).toInt ≤ a1.toInt ∧ a1.toInt ≤ 3999
  · simp (decide := true) only [c, not_true_eq_false, not_false_eq_true, true_implies, false_implies, implies_true, true_and, and_true, false_and, and_false, Nat.reduceEqDiff, if_true, if_false, and_self, eq_self, reduceIte]
    refine hX _ ⟨?_, hhou, ?_, hord, ?_, htap, hthi, hjud, hask, hrea, hsca, hvie, hrul, hrnd, Jroo_s hroo⟩
    · exact ⟨rfl, by have := hnow.2.1; show 0 ≤ a1.toInt; omega, c.2⟩
    · refine ⟨hrow.1, hrow.2.1, hrow.2.2.1, fun i hi => ⟨(hrow.2.2.2 i hi).1, ?_⟩⟩
      have h1 := (hrow.2.2.2 i hi).2
      exact Rok_mono h1 c.1 (Int.le_refl _)
    · refine ⟨hmen.1, hmen.2.1, hmen.2.2.1, fun k hk => ?_, hmen.2.2.2.2⟩
      obtain ⟨h1, h2, h3, h4, h5, h6, h7, h8, h9⟩ := hmen.2.2.2.1 k hk
      exact ⟨h1, h2, h3, h4, h5, h6, h7, h8, Int.le_trans h9 c.1⟩
  · simp (decide := true) only [c, not_true_eq_false, not_false_eq_true, true_implies, false_implies, implies_true, true_and, and_true, false_and, and_false, Nat.reduceEqDiff, if_true, if_false, and_self, eq_self, reduceIte]
    exact hX _ ⟨hnow, hhou, hrow, hord, hmen, htap, hthi, hjud, hask, hrea, hsca, hvie, hrul, hrnd, Jroo_s hroo⟩
theorem sp_1 {t : Nat} {s : ST} {X F : ST → Prop} (a1 : Int32) (h : J t s) (hX : ∀ s1, J (t + 1) s1 → X s1) : st_1 a1 s X F := by
  obtain ⟨hnow, hhou, hrow, hord, hmen, htap, hthi, hjud, hask, hrea, hsca, hvie, hrul, hrnd, hroo⟩ := h
  simp only [st_1, w_128, w_3, w_192, e_181, e_186, t_181, t_186, sI_1, sI_2, sA_1, sA_21, sA_22, va_ap, upd_ap, Nat.reduceEqDiff, if_true, if_false, Int32.reduceToInt, hhou.1]
  by_cases c : 0 ≤ a1.toInt ∧ a1.toInt ≤ 1000000
  · by_cases d : s.1 5501 < 10
    · have d2 : ¬ s.1 5501 = 10 := by rw [i_lt] at d; rw [i_eq]; intro z; rw [z] at d; exact absurd d (by decide)
      have dt : (s.1 5501).toInt < 10 := i_lt.mp d
      have pn : pin (s.1 5501) 10 = true := pin_of hhou.2.1 dt
      simp (decide := true) only [c, d, d2, pn, not_true_eq_false, not_false_eq_true, true_implies, false_implies, implies_true, true_and, and_true, false_and, and_false, Nat.reduceEqDiff, if_true, if_false, and_self, eq_self, reduceIte]
      have e1 : (s.1 5501 + 1).toInt = (s.1 5501).toInt + 1 := t_add1 hhou.2.1 (by omega)
      refine hX _ ⟨hnow, ?_, ?_, hord, hmen, htap, hthi, hjud, hask, hrea, hsca, hvie, hrul, hrnd, Jroo_s hroo⟩
      · refine ⟨rfl, ?_, ?_, ?_⟩
        · show 0 ≤ (s.1 5501 + 1).toInt
          have := hhou.2.1; omega
        · show (s.1 5501 + 1).toInt ≤ 10
          omega
        · intro k hk
          have hk : k < (s.1 5501 + 1).toInt.toNat := hk
          show upd (s.2.1 2) (s.1 5501).toNatClampNeg a1 k = upd (s.2.1 56) (s.1 5501).toNatClampNeg a1 k ∧ 0 ≤ (upd (s.2.1 56) (s.1 5501).toNatClampNeg a1 k).toInt ∧ (upd (s.2.1 56) (s.1 5501).toNatClampNeg a1 k).toInt ≤ 1000000
          simp only [upd_ap]
          by_cases e : k = (s.1 5501).toNatClampNeg
          · simp only [e, if_true, c, and_self]
          · simp only [e, if_false]
            exact hhou.2.2.2 k (by rw [cl_e] at e; show k < (s.1 5501).toInt.toNat; omega)
      · refine ⟨hrow.1, hrow.2.1, hrow.2.2.1, fun i hi => ⟨(hrow.2.2.2 i hi).1, ?_⟩⟩
        have h1 := (hrow.2.2.2 i hi).2
        exact Rok_mono (h2 := (s.1 5501 + 1).toInt) h1 (Int.le_refl _) (by omega)
    · have d2 : s.1 5501 = 10 := by rw [i_lt] at d; rw [i_eq]; have := hhou.2.2.1; have e : (10 : Int32).toInt = 10 := rfl; omega
      simp (decide := true) only [c, d, d2, not_true_eq_false, not_false_eq_true, true_implies, false_implies, implies_true, true_and, and_true, false_and, and_false, Nat.reduceEqDiff, if_true, if_false, and_self, eq_self, reduceIte]
      exact hX _ ⟨hnow, hhou, hrow, hord, hmen, htap, hthi, hjud, hask, hrea, hsca, hvie, hrul, hrnd, Jroo_s hroo⟩
  · simp (decide := true) only [c, not_true_eq_false, not_false_eq_true, true_implies, false_implies, implies_true, true_and, and_true, false_and, and_false, Nat.reduceEqDiff, if_true, if_false, and_self, eq_self, reduceIte]
    exact hX _ ⟨hnow, hhou, hrow, hord, hmen, htap, hthi, hjud, hask, hrea, hsca, hvie, hrul, hrnd, Jroo_s hroo⟩
