/-! ===== the calls without loops; printed by wip/whole/geneasy.py ===== -/
theorem sp_0 {t : Nat} {s : ST} {X F : ST → Prop} (a1 : Int32) (h : J t s) (hX : ∀ s1, J (t + 1) s1 → X s1) : st_0 a1 s X F := by
  obtain ⟨hnow, hhou, hrow, hord, hmen, htap, hthi, hjud, hask, hrea, hsca, hvie, hrul, hrnd, hroo⟩ := h
  simp only [st_0, w_127, w_188, e_181, e_186, t_181, t_186, sI_1, sI_2, sA_1, sA_21, sA_22, va_ap, upd_ap, Nat.reduceEqDiff, if_true, if_false, Int32.reduceToInt, hnow.1]
  by_cases c : (s.1 5500).toInt ≤ a1.toInt ∧ a1.toInt ≤ 3999
  · simp (decide := true) only [c, not_true_eq_false, not_false_eq_true, true_implies, false_implies, implies_true, true_and, and_true, false_and, and_false, Nat.reduceEqDiff, if_true, if_false, and_self, eq_self, reduceIte]
    refine hX _ ⟨?_, hhou, ?_, hord, ?_, htap, hthi, hjud, hask, hrea, hsca, hvie, hrul, hrnd, Jroo_s hroo⟩
    · exact ⟨rfl, by have := hnow.2.1; show 0 ≤ a1.toInt; omega, c.2⟩
    · refine ⟨hrow.1, hrow.2.1, hrow.2.2.1, fun i hi => ⟨(hrow.2.2.2 i hi).1, ?_⟩⟩
      have h1 := (hrow.2.2.2 i hi).2
      exact Rok_mono h1 c.1 (Int.le_refl _)
    · refine ⟨hmen.1, hmen.2.1, hmen.2.2.1, fun k hk => ?_, hmen.2.2.2.2⟩
      obtain ⟨h1, h2, h3, h4, h5, h6, h7, h8, h9⟩ := hmen.2.2.2.1 k hk
      exact ⟨h1, h2, h3, h4, h5, h6, h7, h8, Int.le_trans h9 c.1⟩
  · simp (decide := true) only [c, not_true_eq_false, not_false_eq_true, true_implies, false_implies, implies_true, true_and, and_true, false_and, and_false, Nat.reduceEqDiff, if_true, if_false, and_self, eq_self, reduceIte]
    exact hX _ ⟨hnow, hhou, hrow, hord, hmen, htap, hthi, hjud, hask, hrea, hsca, hvie, hrul, hrnd, Jroo_s hroo⟩
theorem sp_1 {t : Nat} {s : ST} {X F : ST → Prop} (a1 : Int32) (h : J t s) (hX : ∀ s1, J (t + 1) s1 → X s1) : st_1 a1 s X F := by
  obtain ⟨hnow, hhou, hrow, hord, hmen, htap, hthi, hjud, hask, hrea, hsca, hvie, hrul, hrnd, hroo⟩ := h
  simp only [st_1, w_128, w_3, w_192, e_181, e_186, t_181, t_186, sI_1, sI_2, sA_1, sA_21, sA_22, va_ap, upd_ap, Nat.reduceEqDiff, if_true, if_false, Int32.reduceToInt, hhou.1]
  by_cases c : 0 ≤ a1.toInt ∧ a1.toInt ≤ 1000000
  · by_cases d : s.1 5501 < 10
    · have d2 : ¬ s.1 5501 = 10 := by rw [i_lt] at d; rw [i_eq]; intro z; rw [z] at d; exact absurd d (by decide)
      have dt : (s.1 5501).toInt < 10 := i_lt.mp d
      have pn : pin (s.1 5501) 10 = true := pin_of hhou.2.1 dt
      simp (decide := true) only [c, d, d2, pn, not_true_eq_false, not_false_eq_true, true_implies, false_implies, implies_true, true_and, and_true, false_and, and_false, Nat.reduceEqDiff, if_true, if_false, and_self, eq_self, reduceIte]
      have e1 : (s.1 5501 + 1).toInt = (s.1 5501).toInt + 1 := t_add1 hhou.2.1 (by omega)
      refine hX _ ⟨hnow, ?_, ?_, hord, hmen, htap, hthi, hjud, hask, hrea, hsca, hvie, hrul, hrnd, Jroo_s hroo⟩
      · refine ⟨rfl, ?_, ?_, ?_⟩
        · show 0 ≤ (s.1 5501 + 1).toInt
          have := hhou.2.1; omega
        · show (s.1 5501 + 1).toInt ≤ 10
          omega
        · intro k hk
          have hk : k < (s.1 5501 + 1).toInt.toNat := hk
          show upd (s.2.1 2) (s.1 5501).toNatClampNeg a1 k = upd (s.2.1 56) (s.1 5501).toNatClampNeg a1 k ∧ 0 ≤ (upd (s.2.1 56) (s.1 5501).toNatClampNeg a1 k).toInt ∧ (upd (s.2.1 56) (s.1 5501).toNatClampNeg a1 k).toInt ≤ 1000000
          simp only [upd_ap]
          by_cases e : k = (s.1 5501).toNatClampNeg
          · simp only [e, if_true, c, and_self]
          · simp only [e, if_false]
            exact hhou.2.2.2 k (by rw [cl_e] at e; show k < (s.1 5501).toInt.toNat; omega)
      · refine ⟨hrow.1, hrow.2.1, hrow.2.2.1, fun i hi => ⟨(hrow.2.2.2 i hi).1, ?_⟩⟩
        have h1 := (hrow.2.2.2 i hi).2
        exact Rok_mono (h2 := (s.1 5501 + 1).toInt) h1 (Int.le_refl _) (by omega)
    · have d2 : s.1 5501 = 10 := by rw [i_lt] at d; rw [i_eq]; have := hhou.2.2.1; have e : (10 : Int32).toInt = 10 := rfl; omega
      simp (decide := true) only [c, d, d2, not_true_eq_false, not_false_eq_true, true_implies, false_implies, implies_true, true_and, and_true, false_and, and_false, Nat.reduceEqDiff, if_true, if_false, and_self, eq_self, reduceIte]
      exact hX _ ⟨hnow, hhou, hrow, hord, hmen, htap, hthi, hjud, hask, hrea, hsca, hvie, hrul, hrnd, Jroo_s hroo⟩
  · simp (decide := true) only [c, not_true_eq_false, not_false_eq_true, true_implies, false_implies, implies_true, true_and, and_true, false_and, and_false, Nat.reduceEqDiff, if_true, if_false, and_self, eq_self, reduceIte]
    exact hX _ ⟨hnow, hhou, hrow, hord, hmen, htap, hthi, hjud, hask, hrea, hsca, hvie, hrul, hrnd, Jroo_s hroo⟩
theorem sp_9 {t : Nat} {s : ST} {X F : ST → Prop} (a1 : Int32) (a2 : Int32) (h : J t s) (hX : ∀ s1, J (t + 1) s1 → X s1) : st_9 a1 a2 s X F := by
  obtain ⟨hnow, hhou, hrow, hord, hmen, htap, hthi, hjud, hask, hrea, hsca, hvie, hrul, hrnd, hroo⟩ := h
  simp only [st_9, w_140, w_238, e_2, t_2, e_183, t_183, e_190, t_190, e_191, t_191, sI_1, sI_2, sA_1, sA_21, sA_22, va_ap, upd_ap, Nat.reduceEqDiff, if_true, if_false, Int32.reduceToInt, hrow.1]
  by_cases c : 0 ≤ a1.toInt ∧ a1.toInt < (s.1 5502).toInt
  · by_cases d : 0 ≤ a2.toInt ∧ a2.toInt ≤ 15
    · have d2 : 0 ≤ a2.toInt ∧ a2.toInt < 16 := by omega
      obtain ⟨i, hi, rfl⟩ := of_rng (n := 150) c.1 (by have := hrow.2.2.1; omega)
      rw [nI_toInt (by omega)] at c
      have hiR : i < nR s := by show i < (s.1 5502).toInt.toNat; omega
      have r1 := hrow.1
      have hq := (hrow.2.2.2 i hiR).1
      have h9 : ∀ K : Int32 → ST → Prop, w_9 (nI i) 10 s K = K (s.2.1 3 (11 * i + 10)) s := fun K => w9 (by rw [r1]; exact hrow.2.2.1) (by rw [r1]; exact c.2) (by omega) rfl
      have hi10 : (nI i * (11 : Int32) + (10 : Int32)).toNatClampNeg = 11 * i + 10 := ix11 (c := 10) hi (by omega)
      have hp10 : pin (nI i * (11 : Int32) + (10 : Int32)) 1650 = true := pin11 (c := 10) hi (by omega)
      have hp : pin (nI i) 150 = true := pin_nI hi (by omega)
      have e10 : s.2.1 3 (11 * i + 10) = s.2.1 67 i := hq.2.2.2.2.2.2.2.2.2.2
      have ct : 0 ≤ (nI i).toInt ∧ (nI i).toInt < (s.1 5502).toInt := by rw [nI_toInt (by omega)]; omega
      simp (decide := true) only [ct, d, d2, h9, e10, hp, nI_clamp (show i < 2 ^ 31 by omega), not_true_eq_false, not_false_eq_true, true_implies, false_implies, implies_true, true_and, and_true, false_and, and_false, Nat.reduceEqDiff, if_true, if_false, and_self, eq_self, reduceIte]
      by_cases f : s.2.1 67 i = -1
      · simp (decide := true) only [f, w_10, e_2, t_2, sI_1, sI_2, sA_1, sA_21, sA_22, va_ap, upd_ap, Nat.reduceEqDiff, if_true, if_false, Int32.reduceToInt, r1, ct, hi10, hp10, not_true_eq_false, not_false_eq_true, true_implies, false_implies, implies_true, true_and, and_true, false_and, and_false, Nat.reduceEqDiff, if_true, if_false, and_self, eq_self, reduceIte, hnow.1]
        refine hX _ ⟨hnow, hhou, ?_, hord, hmen, htap, hthi, hjud, hask, hrea, hsca, hvie, hrul, hrnd, Jroo_s hroo⟩
        refine ⟨hrow.1, hrow.2.1, hrow.2.2.1, fun j hj => ?_⟩
        obtain ⟨hq, hk⟩ := hrow.2.2.2 j hj
        obtain ⟨q0, q1, q2, q3, q4, q5, q6, q7, q8, q9, q10⟩ := hq
        show Req (upd (s.2.1 3) (11 * i + 10) (s.1 5500)) j (s.2.1 57 j) (s.2.1 58 j) (s.2.1 59 j) (s.2.1 60 j) (s.2.1 61 j) (s.2.1 62 j) (s.2.1 63 j) (s.2.1 64 j) (s.2.1 65 j) (s.2.1 66 j) (upd (s.2.1 67) i (s.1 5500) j) ∧ Rok (s.1 5500).toInt (s.1 5501).toInt (s.2.1 57 j).toInt (s.2.1 58 j).toInt (s.2.1 59 j).toInt (s.2.1 60 j).toInt (s.2.1 61 j).toInt (s.2.1 62 j).toInt (s.2.1 63 j).toInt (s.2.1 64 j).toInt (s.2.1 65 j).toInt (s.2.1 66 j).toInt (upd (s.2.1 67) i (s.1 5500) j).toInt
        by_cases e : j = i
        · subst e
          refine ⟨⟨(pk_un (by omega)).trans q0, (pk_un (by omega)).trans q1, (pk_un (by omega)).trans q2, (pk_un (by omega)).trans q3, (pk_un (by omega)).trans q4, (pk_un (by omega)).trans q5, (pk_un (by omega)).trans q6, (pk_un (by omega)).trans q7, (pk_un (by omega)).trans q8, (pk_un (by omega)).trans q9, by rw [pk_us, pk_us]⟩, ?_⟩
          rw [pk_us]
          have := hnow.2.1
          unfold Rok at hk ⊢
          omega
        · rw [pk_un e]
          exact ⟨⟨(pk_un (by omega)).trans q0, (pk_un (by omega)).trans q1, (pk_un (by omega)).trans q2, (pk_un (by omega)).trans q3, (pk_un (by omega)).trans q4, (pk_un (by omega)).trans q5, (pk_un (by omega)).trans q6, (pk_un (by omega)).trans q7, (pk_un (by omega)).trans q8, (pk_un (by omega)).trans q9, (pk_un (by omega)).trans q10⟩, hk⟩
      · simp (decide := true) only [f, not_true_eq_false, not_false_eq_true, true_implies, false_implies, implies_true, true_and, and_true, false_and, and_false, Nat.reduceEqDiff, if_true, if_false, and_self, eq_self, reduceIte]
        exact hX _ ⟨hnow, hhou, hrow, hord, hmen, htap, hthi, hjud, hask, hrea, hsca, hvie, hrul, hrnd, Jroo_s hroo⟩
    · have d2 : ¬ (0 ≤ a2.toInt ∧ a2.toInt < 16) := by omega
      simp (decide := true) only [c, d, d2, not_true_eq_false, not_false_eq_true, true_implies, false_implies, implies_true, true_and, and_true, false_and, and_false, Nat.reduceEqDiff, if_true, if_false, and_self, eq_self, reduceIte]
      exact hX _ ⟨hnow, hhou, hrow, hord, hmen, htap, hthi, hjud, hask, hrea, hsca, hvie, hrul, hrnd, Jroo_s hroo⟩
  · simp (decide := true) only [c, not_true_eq_false, not_false_eq_true, true_implies, false_implies, implies_true, true_and, and_true, false_and, and_false, Nat.reduceEqDiff, if_true, if_false, and_self, eq_self, reduceIte]
    exact hX _ ⟨hnow, hhou, hrow, hord, hmen, htap, hthi, hjud, hask, hrea, hsca, hvie, hrul, hrnd, Jroo_s hroo⟩
theorem sp_28 {t : Nat} {s : ST} {X F : ST → Prop} (a1 : Int32) (h : J t s) (hX : ∀ s1, J (t + 1) s1 → X s1) : st_28 a1 s X F := by
  obtain ⟨hnow, hhou, hrow, hord, hmen, htap, hthi, hjud, hask, hrea, hsca, hvie, hrul, hrnd, hroo⟩ := h
  simp only [st_28, w_173, w_274, e_2, t_2, e_190, t_190, sI_1, sI_2, sA_1, sA_21, sA_22, va_ap, upd_ap, Nat.reduceEqDiff, if_true, if_false, Int32.reduceToInt, hrow.1, nar1]
  by_cases c : 0 ≤ a1.toInt ∧ a1.toInt < (s.1 5502).toInt
  · obtain ⟨i, hi, rfl⟩ := of_rng (n := 150) c.1 (by have := hrow.2.2.1; omega)
    have hp : pin (nI i) 150 = true := pin_nI hi (by omega)
    obtain ⟨e1, e2⟩ := hjud i hi
    simp (decide := true) only [c, hp, nI_clamp (show i < 2 ^ 31 by omega), e1, not_true_eq_false, not_false_eq_true, true_implies, false_implies, implies_true, true_and, and_true, false_and, and_false, Nat.reduceEqDiff, if_true, if_false, and_self, eq_self, reduceIte]
    by_cases f : s.2.1 68 i = 0
    · simp (decide := true) only [f, not_true_eq_false, not_false_eq_true, true_implies, false_implies, implies_true, true_and, and_true, false_and, and_false, Nat.reduceEqDiff, if_true, if_false, and_self, eq_self, reduceIte]
      refine hX _ ⟨hnow, hhou, hrow, hord, hmen, htap, hthi, ?_, hask, hrea, hsca, hvie, hrul, hrnd, Jroo_s hroo⟩
      intro j hj
      show upd (s.2.1 29) i 1 j = upd (s.2.1 68) i 1 j ∧ (upd (s.2.1 68) i 1 j = 0 ∨ upd (s.2.1 68) i 1 j = 1)
      by_cases e : j = i
      · subst e
        rw [pk_us, pk_us]
        exact ⟨rfl, Or.inr rfl⟩
      · rw [pk_un e, pk_un e]
        exact hjud j hj
    · simp (decide := true) only [f, not_true_eq_false, not_false_eq_true, true_implies, false_implies, implies_true, true_and, and_true, false_and, and_false, Nat.reduceEqDiff, if_true, if_false, and_self, eq_self, reduceIte]
      exact hX _ ⟨hnow, hhou, hrow, hord, hmen, htap, hthi, hjud, hask, hrea, hsca, hvie, hrul, hrnd, Jroo_s hroo⟩
  · simp (decide := true) only [c, not_true_eq_false, not_false_eq_true, true_implies, false_implies, implies_true, true_and, and_true, false_and, and_false, Nat.reduceEqDiff, if_true, if_false, and_self, eq_self, reduceIte]
    exact hX _ ⟨hnow, hhou, hrow, hord, hmen, htap, hthi, hjud, hask, hrea, hsca, hvie, hrul, hrnd, Jroo_s hroo⟩
theorem sp_33 {t : Nat} {s : ST} {X F : ST → Prop} (a1 : Int32) (a2 : Int32) (h : J t s) (hX : ∀ s1, J (t + 1) s1 → X s1) : st_33 a1 a2 s X F := by
  obtain ⟨hnow, hhou, hrow, hord, hmen, htap, hthi, hjud, hask, hrea, hsca, hvie, hrul, hrnd, hroo⟩ := h
  simp only [st_33, w_178, w_281, e_190, t_190]
  have r1 := hrow.1
  by_cases c : 0 ≤ a1.toInt ∧ a1.toInt < (s.1 5502).toInt
  · obtain ⟨i, hi, rfl⟩ := of_rng (n := 150) c.1 (by have := hrow.2.2.1; omega)
    have hp : pin (nI i) 150 = true := pin_nI hi (by omega)
    have ci := c
    rw [nI_toInt (by omega)] at ci
    have hiR : i < nR s := by show i < (s.1 5502).toInt.toNat; omega
    obtain ⟨q0, q1, q2, q3, q4, q5, q6, q7, q8, q9, q10⟩ := (hrow.2.2.2 i hiR).1
    have fin : ∀ y : Int32, (y = y → X s) ∧ (¬ y = y → F s) := fun y => ⟨fun _ => (hX _ ⟨hnow, hhou, hrow, hord, hmen, htap, hthi, hjud, hask, hrea, hsca, hvie, hrul, hrnd, Jroo_s hroo⟩), fun z => absurd rfl z⟩
    by_cases d : a2.toInt < 0 ∨ 10 < a2.toInt
    · have o : ob_9 (nI i) a2 s := by
        intro _ _ h3 h4
        rw [i_lt, l_0] at h3
        rw [i_le] at h4
        have e : (11 : Int32).toInt = 11 := rfl
        omega
      have v : v_9 (nI i) a2 s = -1 := by
        unfold v_9
        by_cases x1 : a2 < 0
        · simp only [x1, if_true, ite_self]
        · have x2 : (11 : Int32) ≤ a2 := by
            rw [i_lt, l_0] at x1
            rw [i_le]
            have e : (11 : Int32).toInt = 11 := rfl
            omega
          simp only [x2, if_true, ite_self]
      rw [e_9 _ _ _ o, v]
      simp only [c, not_true_eq_false, not_false_eq_true, true_implies, false_implies, implies_true, true_and, and_true, false_and, and_false, Nat.reduceEqDiff, if_true, if_false, and_self, eq_self, reduceIte]
      have z : ∀ j : Int, 0 ≤ j → j ≤ 10 → ∀ y : Int32, y.toInt = j → ¬ a2 = y := by
        intro j h1 h2 y h3 h4
        subst h4
        omega
      simp (decide := true) only [d, z 0 (by omega) (by omega) 0 rfl, z 1 (by omega) (by omega) 1 rfl, z 2 (by omega) (by omega) 2 rfl, z 3 (by omega) (by omega) 3 rfl, z 4 (by omega) (by omega) 4 rfl, z 5 (by omega) (by omega) 5 rfl, z 6 (by omega) (by omega) 6 rfl, z 7 (by omega) (by omega) 7 rfl, z 8 (by omega) (by omega) 8 rfl, z 9 (by omega) (by omega) 9 rfl, z 10 (by omega) (by omega) 10 rfl, not_true_eq_false, not_false_eq_true, true_implies, false_implies, implies_true, true_and, and_true, false_and, and_false, Nat.reduceEqDiff, if_true, if_false, and_self, eq_self, reduceIte]
      exact (hX _ ⟨hnow, hhou, hrow, hord, hmen, htap, hthi, hjud, hask, hrea, hsca, hvie, hrul, hrnd, Jroo_s hroo⟩)
    · obtain ⟨cc, hc, rfl⟩ := of_rng (x := a2) (n := 11) (by omega) (by omega)
      rw [w9 (by rw [r1]; exact hrow.2.2.1) (by rw [r1]; exact ci.2) hc rfl]
      simp (decide := true) only [c, hp, d, nI_clamp (show i < 2 ^ 31 by omega), not_true_eq_false, not_false_eq_true, true_implies, false_implies, implies_true, true_and, and_true, false_and, and_false, Nat.reduceEqDiff, if_true, if_false, and_self, eq_self, reduceIte]
      match cc, hc with
      | 0, _ =>
        simp (decide := true) only [nI, Nat.add_zero, q0, not_true_eq_false, not_false_eq_true, true_implies, false_implies, implies_true, true_and, and_true, false_and, and_false, Nat.reduceEqDiff, if_true, if_false, and_self, eq_self, reduceIte]
        exact (hX _ ⟨hnow, hhou, hrow, hord, hmen, htap, hthi, hjud, hask, hrea, hsca, hvie, hrul, hrnd, Jroo_s hroo⟩)
      | 1, _ =>
        simp (decide := true) only [nI, q1, not_true_eq_false, not_false_eq_true, true_implies, false_implies, implies_true, true_and, and_true, false_and, and_false, Nat.reduceEqDiff, if_true, if_false, and_self, eq_self, reduceIte]
        exact (hX _ ⟨hnow, hhou, hrow, hord, hmen, htap, hthi, hjud, hask, hrea, hsca, hvie, hrul, hrnd, Jroo_s hroo⟩)
      | 2, _ =>
        simp (decide := true) only [nI, q2, not_true_eq_false, not_false_eq_true, true_implies, false_implies, implies_true, true_and, and_true, false_and, and_false, Nat.reduceEqDiff, if_true, if_false, and_self, eq_self, reduceIte]
        exact (hX _ ⟨hnow, hhou, hrow, hord, hmen, htap, hthi, hjud, hask, hrea, hsca, hvie, hrul, hrnd, Jroo_s hroo⟩)
      | 3, _ =>
        simp (decide := true) only [nI, q3, not_true_eq_false, not_false_eq_true, true_implies, false_implies, implies_true, true_and, and_true, false_and, and_false, Nat.reduceEqDiff, if_true, if_false, and_self, eq_self, reduceIte]
        exact (hX _ ⟨hnow, hhou, hrow, hord, hmen, htap, hthi, hjud, hask, hrea, hsca, hvie, hrul, hrnd, Jroo_s hroo⟩)
      | 4, _ =>
        simp (decide := true) only [nI, q4, not_true_eq_false, not_false_eq_true, true_implies, false_implies, implies_true, true_and, and_true, false_and, and_false, Nat.reduceEqDiff, if_true, if_false, and_self, eq_self, reduceIte]
        exact (hX _ ⟨hnow, hhou, hrow, hord, hmen, htap, hthi, hjud, hask, hrea, hsca, hvie, hrul, hrnd, Jroo_s hroo⟩)
      | 5, _ =>
        simp (decide := true) only [nI, q5, not_true_eq_false, not_false_eq_true, true_implies, false_implies, implies_true, true_and, and_true, false_and, and_false, Nat.reduceEqDiff, if_true, if_false, and_self, eq_self, reduceIte]
        exact (hX _ ⟨hnow, hhou, hrow, hord, hmen, htap, hthi, hjud, hask, hrea, hsca, hvie, hrul, hrnd, Jroo_s hroo⟩)
      | 6, _ =>
        simp (decide := true) only [nI, q6, not_true_eq_false, not_false_eq_true, true_implies, false_implies, implies_true, true_and, and_true, false_and, and_false, Nat.reduceEqDiff, if_true, if_false, and_self, eq_self, reduceIte]
        exact (hX _ ⟨hnow, hhou, hrow, hord, hmen, htap, hthi, hjud, hask, hrea, hsca, hvie, hrul, hrnd, Jroo_s hroo⟩)
      | 7, _ =>
        simp (decide := true) only [nI, q7, not_true_eq_false, not_false_eq_true, true_implies, false_implies, implies_true, true_and, and_true, false_and, and_false, Nat.reduceEqDiff, if_true, if_false, and_self, eq_self, reduceIte]
        exact (hX _ ⟨hnow, hhou, hrow, hord, hmen, htap, hthi, hjud, hask, hrea, hsca, hvie, hrul, hrnd, Jroo_s hroo⟩)
      | 8, _ =>
        simp (decide := true) only [nI, q8, not_true_eq_false, not_false_eq_true, true_implies, false_implies, implies_true, true_and, and_true, false_and, and_false, Nat.reduceEqDiff, if_true, if_false, and_self, eq_self, reduceIte]
        exact (hX _ ⟨hnow, hhou, hrow, hord, hmen, htap, hthi, hjud, hask, hrea, hsca, hvie, hrul, hrnd, Jroo_s hroo⟩)
      | 9, _ =>
        simp (decide := true) only [nI, q9, not_true_eq_false, not_false_eq_true, true_implies, false_implies, implies_true, true_and, and_true, false_and, and_false, Nat.reduceEqDiff, if_true, if_false, and_self, eq_self, reduceIte]
        exact (hX _ ⟨hnow, hhou, hrow, hord, hmen, htap, hthi, hjud, hask, hrea, hsca, hvie, hrul, hrnd, Jroo_s hroo⟩)
      | 10, _ =>
        simp (decide := true) only [nI, q10, not_true_eq_false, not_false_eq_true, true_implies, false_implies, implies_true, true_and, and_true, false_and, and_false, Nat.reduceEqDiff, if_true, if_false, and_self, eq_self, reduceIte]
        exact (hX _ ⟨hnow, hhou, hrow, hord, hmen, htap, hthi, hjud, hask, hrea, hsca, hvie, hrul, hrnd, Jroo_s hroo⟩)
      | n + 11, h => omega
  · rw [w9o (by rw [r1]; exact c)]
    simp (decide := true) only [c, not_true_eq_false, not_false_eq_true, true_implies, false_implies, implies_true, true_and, and_true, false_and, and_false, Nat.reduceEqDiff, if_true, if_false, and_self, eq_self, reduceIte]
    exact hX _ ⟨hnow, hhou, hrow, hord, hmen, htap, hthi, hjud, hask, hrea, hsca, hvie, hrul, hrnd, Jroo_s hroo⟩
theorem t_162a {p : Int32} {s : ST} : v_162 p 0 s = if 0 ≤ p.toInt ∧ p.toInt ≤ 15 then p else -1 := by
  unfold v_162
  rw [if_pos rfl]
  by_cases c : 0 ≤ p.toInt ∧ p.toInt ≤ 15
  · rw [if_pos c, if_neg (fun z => (t_183.mp z) c)]
  · rw [if_neg c, if_pos (t_183.mpr c)]
theorem t_162b {p : Int32} {s : ST} : v_162 p 1 s = if 0 ≤ p.toInt ∧ p.toInt ≤ 19 then 16 + p else -1 := by
  unfold v_162
  rw [if_neg (by decide)]
  by_cases c : 0 ≤ p.toInt ∧ p.toInt ≤ 19
  · rw [if_pos c, if_neg (fun z => ((t_181 (a := 0) (b := 19)).mp z) c)]
  · rw [if_neg c, if_pos ((t_181 (a := 0) (b := 19)).mpr c)]
theorem t_264a {p : Int32} {s : ST} : (v_264 p 0 s = 0) ↔ ¬ (0 ≤ p.toInt ∧ p.toInt ≤ 15) := by
  have h : v_264 p 0 s = (if p < 0 then (0 : Int32) else (if (16 : Int32) ≤ p then (0 : Int32) else (1 : Int32))) := by unfold v_264; rw [if_pos (rfl : (0 : Int32) = 0)]
  rw [h, t_idx]
  have e : (16 : Int32).toInt = 16 := rfl
  omega
theorem t_264b {p : Int32} {s : ST} : (v_264 p 1 s = 0) ↔ ¬ (0 ≤ p.toInt ∧ p.toInt ≤ 19) := by
  have h : v_264 p 1 s = (if p < 0 then (0 : Int32) else (if (20 : Int32) ≤ p then (0 : Int32) else (1 : Int32))) := by unfold v_264; rw [if_neg (by decide : ¬ (1 : Int32) = 0)]
  rw [h, t_idx]
  have e : (20 : Int32).toInt = 20 := rfl
  omega
theorem thi_up {f g : Nat → Int32} {k : Nat} {v : Int32} (h : ∀ j, j < 36 → f j = g j ∧ 0 ≤ (g j).toInt ∧ (g j).toInt ≤ 1073741823) (c : 0 ≤ v.toInt ∧ v.toInt ≤ 1073741823) : ∀ j, j < 36 → upd f k v j = upd g k v j ∧ 0 ≤ (upd g k v j).toInt ∧ (upd g k v j).toInt ≤ 1073741823 := by
  intro j hj
  by_cases e : j = k
  · subst e
    rw [pk_us, pk_us]
    exact ⟨rfl, c⟩
  · rw [pk_un e, pk_un e]
    exact h j hj
theorem sp_20 {t : Nat} {s : ST} {X F : ST → Prop} (a1 : Int32) (a2 : Int32) (a3 : Int32) (h : J t s) (hX : ∀ s1, J (t + 1) s1 → X s1) : st_20 a1 a2 a3 s X F := by
  obtain ⟨hnow, hhou, hrow, hord, hmen, htap, hthi, hjud, hask, hrea, hsca, hvie, hrul, hrnd, hroo⟩ := h
  simp only [st_20, w_159, w_265, e_162, e_264, e_181, e_186, t_181, t_186, t_162a, t_162b, t_264a, t_264b, sI_1, sI_2, sA_1, sA_21, sA_22, va_ap, upd_ap, Nat.reduceEqDiff, if_true, if_false, Int32.reduceToInt]
  by_cases b : a2 = 0
  · simp (decide := true) only [b, not_true_eq_false, not_false_eq_true, true_implies, false_implies, implies_true, true_and, and_true, false_and, and_false, Nat.reduceEqDiff, if_true, if_false, and_self, eq_self, reduceIte]
    by_cases c : 0 ≤ a1.toInt ∧ a1.toInt ≤ 15
    · have hp : pin a1 36 = true := pin_of c.1 (by omega)
      have n1 : ¬ a1 = -1 := by rw [i_eq, l_m1]; omega
      by_cases d : 0 ≤ a3.toInt ∧ a3.toInt ≤ 1073741823
      · simp (decide := true) only [c, d, hp, n1, not_true_eq_false, not_false_eq_true, true_implies, false_implies, implies_true, true_and, and_true, false_and, and_false, Nat.reduceEqDiff, if_true, if_false, and_self, eq_self, reduceIte]
        exact hX _ ⟨hnow, hhou, hrow, hord, hmen, htap, thi_up hthi d, hjud, hask, hrea, hsca, hvie, hrul, hrnd, Jroo_s hroo⟩
      · simp (decide := true) only [c, d, hp, n1, not_true_eq_false, not_false_eq_true, true_implies, false_implies, implies_true, true_and, and_true, false_and, and_false, Nat.reduceEqDiff, if_true, if_false, and_self, eq_self, reduceIte]
        exact hX _ ⟨hnow, hhou, hrow, hord, hmen, htap, hthi, hjud, hask, hrea, hsca, hvie, hrul, hrnd, Jroo_s hroo⟩
    · simp (decide := true) only [c, not_true_eq_false, not_false_eq_true, true_implies, false_implies, implies_true, true_and, and_true, false_and, and_false, Nat.reduceEqDiff, if_true, if_false, and_self, eq_self, reduceIte]
      exact hX _ ⟨hnow, hhou, hrow, hord, hmen, htap, hthi, hjud, hask, hrea, hsca, hvie, hrul, hrnd, Jroo_s hroo⟩
  · simp (decide := true) only [b, not_true_eq_false, not_false_eq_true, true_implies, false_implies, implies_true, true_and, and_true, false_and, and_false, Nat.reduceEqDiff, if_true, if_false, and_self, eq_self, reduceIte]
    by_cases c : 0 ≤ a1.toInt ∧ a1.toInt ≤ 19
    · have e16 : (16 : Int32).toInt = 16 := rfl
      have e1 : (16 + a1).toInt = 16 + a1.toInt := t_add (a := 16) (by omega) (by omega)
      have hp : pin (16 + a1) 36 = true := pin_of (by omega) (by omega)
      have n1 : ¬ 16 + a1 = -1 := by rw [i_eq, l_m1]; omega
      by_cases d : 0 ≤ a3.toInt ∧ a3.toInt ≤ 1073741823
      · simp (decide := true) only [c, d, hp, n1, not_true_eq_false, not_false_eq_true, true_implies, false_implies, implies_true, true_and, and_true, false_and, and_false, Nat.reduceEqDiff, if_true, if_false, and_self, eq_self, reduceIte]
        exact hX _ ⟨hnow, hhou, hrow, hord, hmen, htap, thi_up hthi d, hjud, hask, hrea, hsca, hvie, hrul, hrnd, Jroo_s hroo⟩
      · simp (decide := true) only [c, d, hp, n1, not_true_eq_false, not_false_eq_true, true_implies, false_implies, implies_true, true_and, and_true, false_and, and_false, Nat.reduceEqDiff, if_true, if_false, and_self, eq_self, reduceIte]
        exact hX _ ⟨hnow, hhou, hrow, hord, hmen, htap, hthi, hjud, hask, hrea, hsca, hvie, hrul, hrnd, Jroo_s hroo⟩
    · simp (decide := true) only [c, not_true_eq_false, not_false_eq_true, true_implies, false_implies, implies_true, true_and, and_true, false_and, and_false, Nat.reduceEqDiff, if_true, if_false, and_self, eq_self, reduceIte]
      exact hX _ ⟨hnow, hhou, hrow, hord, hmen, htap, hthi, hjud, hask, hrea, hsca, hvie, hrul, hrnd, Jroo_s hroo⟩
theorem sp_24 {t : Nat} {s : ST} {X F : ST → Prop} (a1 : Int32) (a2 : Int32) (a3 : Int32) (h : J t s) (hX : ∀ s1, J (t + 1) s1 → X s1) : st_24 a1 a2 a3 s X F := by
  obtain ⟨hnow, hhou, hrow, hord, hmen, htap, hthi, hjud, hask, hrea, hsca, hvie, hrul, hrnd, hroo⟩ := h
  simp only [st_24, w_168, w_270, e_183, t_183, e_2, t_2, e_181, t_181, e_191, t_191, e_190, t_190, e_186, t_186, sI_1, sI_2, sA_1, sA_21, sA_22, va_ap, upd_ap, Nat.reduceEqDiff, if_true, if_false, Int32.reduceToInt, hrow.1, hnow.1, hask.1]
  by_cases b : 0 ≤ a1.toInt ∧ a1.toInt ≤ 15
  · have b2 : 0 ≤ a1.toInt ∧ a1.toInt < 16 := by omega
    by_cases c : 0 ≤ a2.toInt ∧ a2.toInt < (s.1 5502).toInt
    · by_cases d : (s.1 5500 + 1).toInt ≤ a3.toInt ∧ a3.toInt ≤ 3999
      · by_cases e : s.1 5578 < 60
        · have et : (s.1 5578).toInt < 60 := i_lt.mp e
          have e2 : ¬ s.1 5578 = 60 := by rw [i_eq]; have z : (60 : Int32).toInt = 60 := rfl; omega
          have hp : pin (s.1 5578) 60 = true := pin_of hask.2.1 et
          simp (decide := true) only [b, b2, c, d, e, e2, hp, not_true_eq_false, not_false_eq_true, true_implies, false_implies, implies_true, true_and, and_true, false_and, and_false, Nat.reduceEqDiff, if_true, if_false, and_self, eq_self, reduceIte]
          have e1 : (s.1 5578 + 1).toInt = (s.1 5578).toInt + 1 := t_add1 hask.2.1 (by omega)
          refine hX _ ⟨hnow, hhou, hrow, hord, hmen, htap, hthi, hjud, ?_, hrea, hsca, hvie, hrul, hrnd, Jroo_s hroo⟩
          refine ⟨rfl, ?_, ?_, ?_⟩
          · show 0 ≤ (s.1 5578 + 1).toInt
            have := hask.2.1; omega
          · show (s.1 5578 + 1).toInt ≤ 60
            omega
          · intro k hk
            have hk : k < (s.1 5578 + 1).toInt.toNat := hk
            show upd (s.2.1 30) (s.1 5578).toNatClampNeg a2 k = upd (s.2.1 112) (s.1 5578).toNatClampNeg a2 k ∧ upd (s.2.1 31) (s.1 5578).toNatClampNeg a3 k = upd (s.2.1 113) (s.1 5578).toNatClampNeg a3 k ∧ upd (s.2.1 32) (s.1 5578).toNatClampNeg (-1) k = upd (s.2.1 114) (s.1 5578).toNatClampNeg (-1) k ∧ 0 ≤ (upd (s.2.1 112) (s.1 5578).toNatClampNeg a2 k).toInt ∧ (upd (s.2.1 112) (s.1 5578).toNatClampNeg a2 k).toInt < (s.1 5502).toInt ∧ -1 ≤ (upd (s.2.1 114) (s.1 5578).toNatClampNeg (-1) k).toInt ∧ (upd (s.2.1 114) (s.1 5578).toNatClampNeg (-1) k).toInt ≤ 1000000
            by_cases f : k = (s.1 5578).toNatClampNeg
            · subst f
              simp only [pk_us]
              exact ⟨trivial, trivial, trivial, c.1, c.2, by rw [l_m1]; omega, by rw [l_m1]; omega⟩
            · simp only [pk_un f]
              exact hask.2.2.2 k (by rw [cl_e] at f; show k < (s.1 5578).toInt.toNat; omega)
        · have e2 : s.1 5578 = 60 := by rw [i_lt] at e; rw [i_eq]; have := hask.2.2.1; have z : (60 : Int32).toInt = 60 := rfl; omega
          simp (decide := true) only [b, b2, c, d, e2, not_true_eq_false, not_false_eq_true, true_implies, false_implies, implies_true, true_and, and_true, false_and, and_false, Nat.reduceEqDiff, if_true, if_false, and_self, eq_self, reduceIte]
          exact hX _ ⟨hnow, hhou, hrow, hord, hmen, htap, hthi, hjud, hask, hrea, hsca, hvie, hrul, hrnd, Jroo_s hroo⟩
      · simp (decide := true) only [b, b2, c, d, not_true_eq_false, not_false_eq_true, true_implies, false_implies, implies_true, true_and, and_true, false_and, and_false, Nat.reduceEqDiff, if_true, if_false, and_self, eq_self, reduceIte]
        exact hX _ ⟨hnow, hhou, hrow, hord, hmen, htap, hthi, hjud, hask, hrea, hsca, hvie, hrul, hrnd, Jroo_s hroo⟩
    · simp (decide := true) only [b, b2, c, not_true_eq_false, not_false_eq_true, true_implies, false_implies, implies_true, true_and, and_true, false_and, and_false, Nat.reduceEqDiff, if_true, if_false, and_self, eq_self, reduceIte]
      exact hX _ ⟨hnow, hhou, hrow, hord, hmen, htap, hthi, hjud, hask, hrea, hsca, hvie, hrul, hrnd, Jroo_s hroo⟩
  · have b2 : ¬ (0 ≤ a1.toInt ∧ a1.toInt < 16) := by omega
    simp (decide := true) only [b, b2, not_true_eq_false, not_false_eq_true, true_implies, false_implies, implies_true, true_and, and_true, false_and, and_false, Nat.reduceEqDiff, if_true, if_false, and_self, eq_self, reduceIte]
    exact hX _ ⟨hnow, hhou, hrow, hord, hmen, htap, hthi, hjud, hask, hrea, hsca, hvie, hrul, hrnd, Jroo_s hroo⟩
theorem t_171 {p : Int32} {s : ST} (h1 : 0 ≤ (s.1 13).toInt) (h2 : (s.1 13).toInt ≤ 60) : (v_171 p s = 0) ↔ ¬ (0 ≤ p.toInt ∧ p.toInt < (s.1 13).toInt) := by
  unfold v_171
  have e : (s.1 13 - 1).toInt = (s.1 13).toInt - 1 := t_sub (b := 1) (by rw [l_1]; omega) (by rw [l_1]; omega)
  have z : (60 : Int32).toInt = 60 := rfl
  by_cases c : 0 ≤ p.toInt ∧ p.toInt < (s.1 13).toInt
  · rw [if_neg (fun w => (t_181.mp w) (by rw [l_0, e]; omega)), if_neg (by rw [i_le]; omega)]
    exact ⟨fun w => absurd w (by decide), fun w => absurd c w⟩
  · rw [if_pos (t_181.mpr (by rw [l_0, e]; omega))]
    exact ⟨fun _ => c, fun _ => rfl⟩
theorem t_271 {p : Int32} {s : ST} : (v_271 p s = 0) ↔ ¬ (0 ≤ p.toInt ∧ p.toInt < (s.1 5578).toInt) := t_idx
theorem sp_25 {t : Nat} {s : ST} {X F : ST → Prop} (a1 : Int32) (a2 : Int32) (h : J t s) (hX : ∀ s1, J (t + 1) s1 → X s1) : st_25 a1 a2 s X F := by
  obtain ⟨hnow, hhou, hrow, hord, hmen, htap, hthi, hjud, hask, hrea, hsca, hvie, hrul, hrnd, hroo⟩ := h
  have t1 : ∀ p : Int32, (v_171 p s = 0) ↔ ¬ (0 ≤ p.toInt ∧ p.toInt < (s.1 5578).toInt) := by
    intro p
    have h := t_171 (p := p) (s := s) (by rw [hask.1]; exact hask.2.1) (by rw [hask.1]; exact hask.2.2.1)
    rw [hask.1] at h
    exact h
  simp only [st_25, w_169, w_272, e_171, t1, e_271, t_271, e_181, t_181, e_186, t_186, sI_1, sI_2, sA_1, sA_21, sA_22, va_ap, upd_ap, Nat.reduceEqDiff, if_true, if_false, Int32.reduceToInt]
  by_cases c : 0 ≤ a1.toInt ∧ a1.toInt < (s.1 5578).toInt
  · by_cases d : 0 ≤ a2.toInt ∧ a2.toInt ≤ 1000000
    · obtain ⟨i, hi, rfl⟩ := of_rng (n := 60) c.1 (by have := hask.2.2.1; omega)
      have ci := c
      rw [nI_toInt (by omega)] at ci
      obtain ⟨h1, h2, h3, h4⟩ := hask.2.2.2 i (by show i < (s.1 5578).toInt.toNat; omega)
      have hp : pin (nI i) 60 = true := pin_nI hi (by omega)
      simp (decide := true) only [c, d, hp, nI_clamp (show i < 2 ^ 31 by omega), h3, not_true_eq_false, not_false_eq_true, true_implies, false_implies, implies_true, true_and, and_true, false_and, and_false, Nat.reduceEqDiff, if_true, if_false, and_self, eq_self, reduceIte]
      by_cases f : s.2.1 114 i = -1
      · simp (decide := true) only [f, not_true_eq_false, not_false_eq_true, true_implies, false_implies, implies_true, true_and, and_true, false_and, and_false, Nat.reduceEqDiff, if_true, if_false, and_self, eq_self, reduceIte]
        refine hX _ ⟨hnow, hhou, hrow, hord, hmen, htap, hthi, hjud, ?_, hrea, hsca, hvie, hrul, hrnd, Jroo_s hroo⟩
        refine ⟨hask.1, hask.2.1, hask.2.2.1, fun k hk => ?_⟩
        obtain ⟨g1, g2, g3, g4, g5, g6, g7⟩ := hask.2.2.2 k hk
        show s.2.1 30 k = s.2.1 112 k ∧ s.2.1 31 k = s.2.1 113 k ∧ upd (s.2.1 32) i a2 k = upd (s.2.1 114) i a2 k ∧ 0 ≤ (s.2.1 112 k).toInt ∧ (s.2.1 112 k).toInt < (s.1 5502).toInt ∧ -1 ≤ (upd (s.2.1 114) i a2 k).toInt ∧ (upd (s.2.1 114) i a2 k).toInt ≤ 1000000
        by_cases e : k = i
        · subst e
          simp only [pk_us]
          exact ⟨g1, g2, trivial, g4, g5, by omega, d.2⟩
        · simp only [pk_un e]
          exact ⟨g1, g2, g3, g4, g5, g6, g7⟩
      · simp (decide := true) only [f, not_true_eq_false, not_false_eq_true, true_implies, false_implies, implies_true, true_and, and_true, false_and, and_false, Nat.reduceEqDiff, if_true, if_false, and_self, eq_self, reduceIte]
        exact hX _ ⟨hnow, hhou, hrow, hord, hmen, htap, hthi, hjud, hask, hrea, hsca, hvie, hrul, hrnd, Jroo_s hroo⟩
    · simp (decide := true) only [c, d, not_true_eq_false, not_false_eq_true, true_implies, false_implies, implies_true, true_and, and_true, false_and, and_false, Nat.reduceEqDiff, if_true, if_false, and_self, eq_self, reduceIte]
      exact hX _ ⟨hnow, hhou, hrow, hord, hmen, htap, hthi, hjud, hask, hrea, hsca, hvie, hrul, hrnd, Jroo_s hroo⟩
  · simp (decide := true) only [c, not_true_eq_false, not_false_eq_true, true_implies, false_implies, implies_true, true_and, and_true, false_and, and_false, Nat.reduceEqDiff, if_true, if_false, and_self, eq_self, reduceIte]
    exact hX _ ⟨hnow, hhou, hrow, hord, hmen, htap, hthi, hjud, hask, hrea, hsca, hvie, hrul, hrnd, Jroo_s hroo⟩
theorem sp_30 {t : Nat} {s : ST} {X F : ST → Prop} (a1 : Int32) (a2 : Int32) (a3 : Int32) (h : J t s) (hX : ∀ s1, J (t + 1) s1 → X s1) : st_30 a1 a2 a3 s X F := by
  obtain ⟨hnow, hhou, hrow, hord, hmen, htap, hthi, hjud, hask, hrea, hsca, hvie, hrul, hrnd, hroo⟩ := h
  simp only [st_30, w_175, w_89, w_276, e_181, t_181, e_186, t_186, sI_1, sI_2, sA_1, sA_21, sA_22, va_ap, upd_ap, Nat.reduceEqDiff, if_true, if_false, Int32.reduceToInt, hrea.1]
  have em : (s.1 5579 - 1).toInt = (s.1 5579).toInt - 1 := t_sub (b := 1) (by have := hrea.2.1; rw [l_1]; omega) (by have := hrea.2.2.1; rw [l_1]; omega)
  have lm := l_m1
  by_cases b : 1 ≤ a1.toInt ∧ a1.toInt ≤ 1000
  · by_cases c : 0 ≤ a2.toInt ∧ a2.toInt ≤ 100000
    · by_cases d : -1 ≤ a3.toInt ∧ a3.toInt ≤ (s.1 5579 - 1).toInt
      · by_cases e : (9 : Int32) ≤ s.1 5579
        · have e2 : s.1 5579 = 9 := by rw [i_le] at e; rw [i_eq]; have := hrea.2.2.1; have z : (9 : Int32).toInt = 9 := rfl; omega
          rw [e2] at d
          simp (decide := true) only [b, c, d, e2, not_true_eq_false, not_false_eq_true, true_implies, false_implies, implies_true, true_and, and_true, false_and, and_false, Nat.reduceEqDiff, if_true, if_false, and_self, eq_self, reduceIte]
          exact hX _ ⟨hnow, hhou, hrow, hord, hmen, htap, hthi, hjud, hask, hrea, hsca, hvie, hrul, hrnd, Jroo_s hroo⟩
        · have z : (9 : Int32).toInt = 9 := rfl
          have et : (s.1 5579).toInt < 9 := by rw [i_le] at e; omega
          have e2 : ¬ s.1 5579 = 9 := by rw [i_eq]; omega
          have e3 : s.1 5579 < 9 := by rw [i_lt]; omega
          have hp : pin (s.1 5579) 9 = true := pin_of hrea.2.1 et
          simp (decide := true) only [b, c, d, e, e2, e3, hp, not_true_eq_false, not_false_eq_true, true_implies, false_implies, implies_true, true_and, and_true, false_and, and_false, Nat.reduceEqDiff, if_true, if_false, and_self, eq_self, reduceIte]
          have e1 : (s.1 5579 + 1).toInt = (s.1 5579).toInt + 1 := t_add1 hrea.2.1 (by omega)
          refine hX _ ⟨hnow, hhou, hrow, hord, hmen, htap, hthi, hjud, hask, ?_, hsca, hvie, hrul, hrnd, Jroo_s hroo⟩
          refine ⟨rfl, ?_, ?_, ?_⟩
          · show 0 ≤ (s.1 5579 + 1).toInt
            have := hrea.2.1; omega
          · show (s.1 5579 + 1).toInt ≤ 9
            omega
          · intro k hk
            have hk : k < (s.1 5579 + 1).toInt.toNat := hk
            show upd (s.2.1 24) (s.1 5579).toNatClampNeg a1 k = upd (s.2.1 115) (s.1 5579).toNatClampNeg a1 k ∧ upd (s.2.1 25) (s.1 5579).toNatClampNeg a2 k = upd (s.2.1 116) (s.1 5579).toNatClampNeg a2 k ∧ upd (s.2.1 26) (s.1 5579).toNatClampNeg a3 k = upd (s.2.1 117) (s.1 5579).toNatClampNeg a3 k ∧ 1 ≤ (upd (s.2.1 115) (s.1 5579).toNatClampNeg a1 k).toInt ∧ (upd (s.2.1 115) (s.1 5579).toNatClampNeg a1 k).toInt ≤ 1000 ∧ 0 ≤ (upd (s.2.1 116) (s.1 5579).toNatClampNeg a2 k).toInt ∧ (upd (s.2.1 116) (s.1 5579).toNatClampNeg a2 k).toInt ≤ 100000 ∧ -1 ≤ (upd (s.2.1 117) (s.1 5579).toNatClampNeg a3 k).toInt ∧ (upd (s.2.1 117) (s.1 5579).toNatClampNeg a3 k).toInt < k
            by_cases f : k = (s.1 5579).toNatClampNeg
            · subst f
              simp only [pk_us]
              refine ⟨trivial, trivial, trivial, b.1, b.2, c.1, c.2, by omega, ?_⟩
              have := hrea.2.1
              rw [cl_e]
              omega
            · simp only [pk_un f]
              exact hrea.2.2.2 k (by rw [cl_e] at f; show k < (s.1 5579).toInt.toNat; omega)
      · simp (decide := true) only [b, c, d, not_true_eq_false, not_false_eq_true, true_implies, false_implies, implies_true, true_and, and_true, false_and, and_false, Nat.reduceEqDiff, if_true, if_false, and_self, eq_self, reduceIte]
        exact hX _ ⟨hnow, hhou, hrow, hord, hmen, htap, hthi, hjud, hask, hrea, hsca, hvie, hrul, hrnd, Jroo_s hroo⟩
    · simp (decide := true) only [b, c, not_true_eq_false, not_false_eq_true, true_implies, false_implies, implies_true, true_and, and_true, false_and, and_false, Nat.reduceEqDiff, if_true, if_false, and_self, eq_self, reduceIte]
      exact hX _ ⟨hnow, hhou, hrow, hord, hmen, htap, hthi, hjud, hask, hrea, hsca, hvie, hrul, hrnd, Jroo_s hroo⟩
  · simp (decide := true) only [b, not_true_eq_false, not_false_eq_true, true_implies, false_implies, implies_true, true_and, and_true, false_and, and_false, Nat.reduceEqDiff, if_true, if_false, and_self, eq_self, reduceIte]
    exact hX _ ⟨hnow, hhou, hrow, hord, hmen, htap, hthi, hjud, hask, hrea, hsca, hvie, hrul, hrnd, Jroo_s hroo⟩
