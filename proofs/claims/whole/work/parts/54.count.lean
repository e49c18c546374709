/-! ===== count; printed by wip/whole/gencount.py ===== -/
theorem mp_R22 {D s : ST} {i : Nat} {K : Nat → ST → Prop} (hj : Jrul D) (k2202 : s.1 2202 = D.1 2202) (hl : s.2.2.2 = D.2.2.2) (hi : i < nC D) (k : ∀ y, TxA D D.2.2.2.2 (20 + i) y 0 3999 → K y s) : w_299_R22 (nI i) s K := by
  obtain ⟨_, _, _, _, h1, _, h3, h4⟩ := hj
  rcases h4 with z | ⟨b, cap, g, q1, q2, q3, q4, q5⟩
  · omega
  · obtain ⟨_, y, r1, r2⟩ := q5 i hi
    unfold w_299_R22
    rw [k2202, h1]
    refine mp_306 hi (by omega) ?_
    unfold w_298_R22
    refine Or.inr ⟨b, by rw [hl]; exact q1, cap, g, y, by rw [hl]; exact q2, ?_, ?_, k y r2⟩
    · exact pin_of (by rw [nI_toInt (by omega)]; omega) (by rw [nI_toInt (by omega)]; omega)
    · rw [nI_clamp (by omega)]; exact r1
theorem mp_180a {s : ST} {p : Int32} {K : Int32 → ST → Prop} (hJ : Jrul s) (hp : 0 ≤ p.toInt ∧ p.toInt ≤ 19) (k1 : ∀ i, i < nU s → p = nI i → K (s.2.1 86 i) s) (k0 : ¬ p.toInt < nU s → K (-1) s) : w_180_R20 p s K := by
  have hU := hJ.2.2.1
  unfold w_180_R20 w_297_R20
  rw [hJ.1]
  have em : (nI (nU s) - 1).toInt = (nU s : Int) - 1 := by rw [t_sub (b := 1) (by rw [l_1, nI_toInt (by omega)]; omega) (by rw [l_1, nI_toInt (by omega)]; omega), l_1, nI_toInt (by omega)]
  simp only [e_181, t_181, em, l_0]
  by_cases c : p.toInt < nU s
  · obtain ⟨i, hi, rfl⟩ := of_rng (x := p) (n := nU s) hp.1 c
    refine br_f (fun z => z ⟨hp.1, by omega⟩) (mp_R20 (D := s) hJ rfl rfl hi (fun y tx => ?_))
    obtain ⟨t1, _, _, v, mc, b, cap, g, p1, p2, _⟩ := tx
    have k2 := k1 i hi rfl
    rw [t1] at k2
    exact ⟨_, p1, v, pg p1 rfl, _, p2, nI (nK s i), pg p2 rfl, k2⟩
  · exact br_t (fun z => c (by omega)) (k0 c)
theorem mp_180b {s : ST} {p : Int32} {K : Int32 → ST → Prop} (hJ : Jrul s) (hp : 0 ≤ p.toInt ∧ p.toInt ≤ 5) (k1 : ∀ i, i < nC s → p = nI i → K (s.2.1 86 (20 + i)) s) (k0 : ¬ p.toInt < nC s → K (-1) s) : w_180_R22 p s K := by
  have hU := hJ.2.2.2.2.2.2.1
  unfold w_180_R22 w_297_R22
  rw [hJ.2.2.2.2.1]
  have em : (nI (nC s) - 1).toInt = (nC s : Int) - 1 := by rw [t_sub (b := 1) (by rw [l_1, nI_toInt (by omega)]; omega) (by rw [l_1, nI_toInt (by omega)]; omega), l_1, nI_toInt (by omega)]
  simp only [e_181, t_181, em, l_0]
  by_cases c : p.toInt < nC s
  · obtain ⟨i, hi, rfl⟩ := of_rng (x := p) (n := nC s) hp.1 c
    refine br_f (fun z => z ⟨hp.1, by omega⟩) (mp_R22 (D := s) hJ rfl rfl hi (fun y tx => ?_))
    obtain ⟨t1, _, _, v, mc, b, cap, g, p1, p2, _⟩ := tx
    have k2 := k1 i hi rfl
    rw [t1] at k2
    exact ⟨_, p1, v, pg p1 rfl, _, p2, nI (nK s (20 + i)), pg p2 rfl, k2⟩
  · exact br_t (fun z => c (by omega)) (k0 c)
theorem mp_282 {s : ST} {p : Int32} {K : Int32 → ST → Prop} (hJ : Jrul s) (h0 : p = 0 → K (s.1 5500) s) (h1 : p = 1 → K (s.1 5501) s) (h2 : p = 2 → K (s.1 5502) s) (h3 : p = 3 → K (s.1 5541) s) (h4 : p = 4 → K (s.1 5503) s) (h5 : p = 5 → K (s.1 5542) s) (h6 : p = 6 → K (s.1 5578) s) (h7 : p = 7 → K (s.1 5579) s) (h8 : p = 8 → K (s.1 5525) s) (hr : ∀ i : Nat, i < nU s → p.toInt = 20 + i → K (s.2.1 86 i) s) (hc : ∀ i : Nat, i < nC s → p.toInt = 40 + i → K (s.2.1 86 (20 + i)) s) (hn : (p.toInt < 0 ∨ 8 < p.toInt) → ¬ (20 ≤ p.toInt ∧ p.toInt < 20 + nU s) → ¬ (40 ≤ p.toInt ∧ p.toInt < 40 + nC s) → K (-1) s) : w_282 p s K := by
  have hU := hJ.2.2.1
  have hC := hJ.2.2.2.2.2.2.1
  unfold w_282
  refine ⟨fun z => ?_, h0, h1, h2, h3, h4, h5, h6, h7, h8⟩
  have e20 : (20 : Int32).toInt = 20 := rfl
  have e40 : (40 : Int32).toInt = 40 := rfl
  have m1 : ((19 : Int32) + s.1 5541).toInt = 19 + nU s := by
    rw [hJ.2.1]
    have e : (19 : Int32) = nI 19 := rfl
    rw [e, nI_add, nI_toInt (by omega)]
    omega
  have m2 : ((39 : Int32) + s.1 5542).toInt = 39 + nC s := by
    rw [hJ.2.2.2.2.2.1]
    have e : (39 : Int32) = nI 39 := rfl
    rw [e, nI_add, nI_toInt (by omega)]
    omega
  simp only [e_186, t_186, m1, m2, e20, e40]
  by_cases c : 20 ≤ p.toInt ∧ p.toInt ≤ 19 + nU s
  · have es : (p - 20).toInt = p.toInt - 20 := t_sub (b := 20) (by omega) (by omega)
    refine br_f (fun y => y c) ⟨pin_of (by omega) (by omega), ?_⟩
    have := hr (p - 20).toNatClampNeg (by rw [cl_e]; omega) (by rw [cl_e]; omega)
    exact this
  · refine br_t c ?_
    by_cases d : 40 ≤ p.toInt ∧ p.toInt ≤ 39 + nC s
    · have e1 : ((20 : Int32) + p).toInt = 20 + p.toInt := t_add (a := 20) (by omega) (by omega)
      have es : ((20 : Int32) + p - 40).toInt = p.toInt - 20 := by rw [t_sub (b := 40) (by omega) (by omega)]; omega
      refine br_f (fun y => y d) ⟨pin_of (by omega) (by omega), ?_⟩
      obtain ⟨i, hi⟩ : ∃ i : Nat, p.toInt = 40 + i := ⟨(p.toInt - 40).toNat, by omega⟩
      have := hc i (by omega) hi
      have ei : ((20 : Int32) + p - 40).toNatClampNeg = 20 + i := by rw [cl_e]; omega
      rw [ei]
      exact this
    · exact br_t d (hn z (by omega) (by omega))
theorem sp_34 {t : Nat} {s : ST} {X F : ST → Prop} (a1 : Int32) (h : J t s) (hX : ∀ s1, J (t + 1) s1 → X s1) : st_34 a1 s X F := by
  obtain ⟨hnow, hhou, hrow, hord, hmen, htap, hthi, hjud, hask, hrea, hsca, hvie, hrul, hrnd, hroo⟩ := h
  have hJ : J t s := ⟨hnow, hhou, hrow, hord, hmen, htap, hthi, hjud, hask, hrea, hsca, hvie, hrul, hrnd, hroo⟩
  have fin : X s := hX _ (J_s hJ)
  have hU := hrul.2.2.1
  have hCn := hrul.2.2.2.2.2.2.1
  unfold st_34 w_179 w_297_R20 w_297_R22
  simp only [e_181, t_181, Int32.reduceToInt]
  by_cases c : 20 ≤ a1.toInt ∧ a1.toInt ≤ 39
  · have es : (a1 - 20).toInt = a1.toInt - 20 := t_sub (b := 20) (by have e : (20 : Int32).toInt = 20 := rfl; omega) (by have e : (20 : Int32).toInt = 20 := rfl; omega)
    have no : ∀ j : Nat, j ≤ 8 → ¬ a1 = nI j := fun j hj z => by have := congrArg Int32.toInt z; rw [nI_toInt (by omega)] at this; omega
    have ref : ∀ y : Int32, (∀ i : Nat, i < nU s → a1.toInt = 20 + i → y = s.2.1 86 i) → (¬ (a1 - 20).toInt < nU s → y = -1) → w_282 a1 s (fun r4 s3 => (y = r4 → X s3) ∧ (¬ y = r4 → F s3)) := by
      intro y h1 h2
      refine mp_282 hrul (fun z => absurd z (no 0 (by omega))) (fun z => absurd z (no 1 (by omega))) (fun z => absurd z (no 2 (by omega))) (fun z => absurd z (no 3 (by omega))) (fun z => absurd z (no 4 (by omega))) (fun z => absurd z (no 5 (by omega))) (fun z => absurd z (no 6 (by omega))) (fun z => absurd z (no 7 (by omega))) (fun z => absurd z (no 8 (by omega))) (fun i hi e => br_t (h1 i hi e) fin) (fun i hi e => by omega) (fun _ z _ => br_t (h2 (by omega)) fin)
    refine br_f (fun z => z c) (mp_180a hrul (by omega) (fun i hi e => ?_) (fun z => ?_))
    · have ei : a1.toInt = 20 + i := by rw [e, nI_toInt (by omega)] at es; omega
      refine ref _ (fun i2 hi2 e2 => ?_) (fun z => absurd (by omega) z)
      have : i = i2 := by omega
      rw [this]
    · refine ref _ (fun i2 hi2 e2 => absurd (by omega) z) (fun _ => rfl)
  · refine br_t c ?_
    by_cases d : 40 ≤ a1.toInt ∧ a1.toInt ≤ 45
    · have es : (a1 - 40).toInt = a1.toInt - 40 := t_sub (b := 40) (by have e : (40 : Int32).toInt = 40 := rfl; omega) (by have e : (40 : Int32).toInt = 40 := rfl; omega)
      have no : ∀ j : Nat, j ≤ 8 → ¬ a1 = nI j := fun j hj z => by have := congrArg Int32.toInt z; rw [nI_toInt (by omega)] at this; omega
      have ref : ∀ y : Int32, (∀ i : Nat, i < nC s → a1.toInt = 40 + i → y = s.2.1 86 (20 + i)) → (¬ (a1 - 40).toInt < nC s → y = -1) → w_282 a1 s (fun r4 s3 => (y = r4 → X s3) ∧ (¬ y = r4 → F s3)) := by
        intro y h1 h2
        refine mp_282 hrul (fun z => absurd z (no 0 (by omega))) (fun z => absurd z (no 1 (by omega))) (fun z => absurd z (no 2 (by omega))) (fun z => absurd z (no 3 (by omega))) (fun z => absurd z (no 4 (by omega))) (fun z => absurd z (no 5 (by omega))) (fun z => absurd z (no 6 (by omega))) (fun z => absurd z (no 7 (by omega))) (fun z => absurd z (no 8 (by omega))) (fun i hi e => by omega) (fun i hi e => br_t (h1 i hi e) fin) (fun _ _ z => br_t (h2 (by omega)) fin)
      refine br_f (fun z => z d) (mp_180b hrul (by omega) (fun i hi e => ?_) (fun z => ?_))
      · have ei : a1.toInt = 40 + i := by rw [e, nI_toInt (by omega)] at es; omega
        refine ref _ (fun i2 hi2 e2 => ?_) (fun z => absurd (by omega) z)
        have : i = i2 := by omega
        rw [this]
      · refine ref _ (fun i2 hi2 e2 => absurd (by omega) z) (fun _ => rfl)
    · refine br_t d ?_
      have e2002 : s.1 2002 = s.1 5541 := by rw [hrul.1, hrul.2.1]
      have e2202 : s.1 2202 = s.1 5542 := by rw [hrul.2.2.2.2.1, hrul.2.2.2.2.2.1]
      rw [hnow.1, hhou.1, hrow.1, e2002, hmen.1, e2202, hask.1, hrea.1, htap.1]
      have oth : ∀ y : Int32, ((a1.toInt < 0 ∨ 8 < a1.toInt) → y = -1) → (a1 = 0 → y = s.1 5500) → (a1 = 1 → y = s.1 5501) → (a1 = 2 → y = s.1 5502) → (a1 = 3 → y = s.1 5541) → (a1 = 4 → y = s.1 5503) → (a1 = 5 → y = s.1 5542) → (a1 = 6 → y = s.1 5578) → (a1 = 7 → y = s.1 5579) → (a1 = 8 → y = s.1 5525) → w_282 a1 s (fun r4 s3 => (y = r4 → X s3) ∧ (¬ y = r4 → F s3)) := by
        intro y hm h0 h1 h2 h3 h4 h5 h6 h7 h8
        exact mp_282 hrul (fun z => br_t (h0 z) fin) (fun z => br_t (h1 z) fin) (fun z => br_t (h2 z) fin) (fun z => br_t (h3 z) fin) (fun z => br_t (h4 z) fin) (fun z => br_t (h5 z) fin) (fun z => br_t (h6 z) fin) (fun z => br_t (h7 z) fin) (fun z => br_t (h8 z) fin) (fun i hi e => by omega) (fun i hi e => by omega) (fun z _ _ => br_t (hm z) fin)
      refine ⟨fun z => oth _ (fun _ => rfl) ?_ ?_ ?_ ?_ ?_ ?_ ?_ ?_ ?_, ?_, ?_, ?_, ?_, ?_, ?_, ?_, ?_, ?_⟩
      · intro y; rw [y] at z; exact absurd z (by decide)
      · intro y; rw [y] at z; exact absurd z (by decide)
      · intro y; rw [y] at z; exact absurd z (by decide)
      · intro y; rw [y] at z; exact absurd z (by decide)
      · intro y; rw [y] at z; exact absurd z (by decide)
      · intro y; rw [y] at z; exact absurd z (by decide)
      · intro y; rw [y] at z; exact absurd z (by decide)
      · intro y; rw [y] at z; exact absurd z (by decide)
      · intro y; rw [y] at z; exact absurd z (by decide)
      · intro z; subst z; exact oth _ (fun y => absurd y (by decide)) (fun _ => rfl) (fun y => absurd y (by decide)) (fun y => absurd y (by decide)) (fun y => absurd y (by decide)) (fun y => absurd y (by decide)) (fun y => absurd y (by decide)) (fun y => absurd y (by decide)) (fun y => absurd y (by decide)) (fun y => absurd y (by decide))
      · intro z; subst z; exact oth _ (fun y => absurd y (by decide)) (fun y => absurd y (by decide)) (fun _ => rfl) (fun y => absurd y (by decide)) (fun y => absurd y (by decide)) (fun y => absurd y (by decide)) (fun y => absurd y (by decide)) (fun y => absurd y (by decide)) (fun y => absurd y (by decide)) (fun y => absurd y (by decide))
      · intro z; subst z; exact oth _ (fun y => absurd y (by decide)) (fun y => absurd y (by decide)) (fun y => absurd y (by decide)) (fun _ => rfl) (fun y => absurd y (by decide)) (fun y => absurd y (by decide)) (fun y => absurd y (by decide)) (fun y => absurd y (by decide)) (fun y => absurd y (by decide)) (fun y => absurd y (by decide))
      · intro z; subst z; exact oth _ (fun y => absurd y (by decide)) (fun y => absurd y (by decide)) (fun y => absurd y (by decide)) (fun y => absurd y (by decide)) (fun _ => rfl) (fun y => absurd y (by decide)) (fun y => absurd y (by decide)) (fun y => absurd y (by decide)) (fun y => absurd y (by decide)) (fun y => absurd y (by decide))
      · intro z; subst z; exact oth _ (fun y => absurd y (by decide)) (fun y => absurd y (by decide)) (fun y => absurd y (by decide)) (fun y => absurd y (by decide)) (fun y => absurd y (by decide)) (fun _ => rfl) (fun y => absurd y (by decide)) (fun y => absurd y (by decide)) (fun y => absurd y (by decide)) (fun y => absurd y (by decide))
      · intro z; subst z; exact oth _ (fun y => absurd y (by decide)) (fun y => absurd y (by decide)) (fun y => absurd y (by decide)) (fun y => absurd y (by decide)) (fun y => absurd y (by decide)) (fun y => absurd y (by decide)) (fun _ => rfl) (fun y => absurd y (by decide)) (fun y => absurd y (by decide)) (fun y => absurd y (by decide))
      · intro z; subst z; exact oth _ (fun y => absurd y (by decide)) (fun y => absurd y (by decide)) (fun y => absurd y (by decide)) (fun y => absurd y (by decide)) (fun y => absurd y (by decide)) (fun y => absurd y (by decide)) (fun y => absurd y (by decide)) (fun _ => rfl) (fun y => absurd y (by decide)) (fun y => absurd y (by decide))
      · intro z; subst z; exact oth _ (fun y => absurd y (by decide)) (fun y => absurd y (by decide)) (fun y => absurd y (by decide)) (fun y => absurd y (by decide)) (fun y => absurd y (by decide)) (fun y => absurd y (by decide)) (fun y => absurd y (by decide)) (fun y => absurd y (by decide)) (fun _ => rfl) (fun y => absurd y (by decide))
      · intro z; subst z; exact oth _ (fun y => absurd y (by decide)) (fun y => absurd y (by decide)) (fun y => absurd y (by decide)) (fun y => absurd y (by decide)) (fun y => absurd y (by decide)) (fun y => absurd y (by decide)) (fun y => absurd y (by decide)) (fun y => absurd y (by decide)) (fun y => absurd y (by decide)) (fun _ => rfl)
