/-! ===== the reference's rounds ===== -/
def TC (D : ST) (ds : Int) (hu : Nat) : List Nat → Nat
  | [] => 0
  | p :: r => RCD D ds hu (nP D - (p + 1)) r (p + 1) + TC D ds hu r
theorem rev_h : ∀ (p : Nat) (r : List Nat), (p :: r).reverse.head? = some (lst (p :: r))
  | p, [] => rfl
  | p, q :: r => by
    rw [List.reverse_cons]
    exact head_app (rev_h q r)
theorem l_251 {D s : ST} {x7 : Int64} {k : Nat} {u : List Nat} {X1 X2 : Int64 → ST → Prop} {K : Int32 → ST → Prop} (hB : Bk D) (fD : Fr fsS D s) (hl : u.length ≤ 6) (hU : ∀ j p, u[j]? = some p → s.2.1 103 j = nI (ro D p) ∧ p < nP D) (hm : ∀ p, p ∈ u → mvP D p = true) (hk : mvP D k = true) (h1 : (∀ p, p ∈ u → ¬ itP D p = itP D k) → X1 x7 s) (h2 : ¬ (∀ p, p ∈ u → ¬ itP D p = itP D k) → X2 x7 s) : ∀ m j, j + m = u.length → (∀ i p, i < j → u[i]? = some p → ¬ itP D p = itP D k) → w_251_L68 (m + 1) (nI u.length) (nI (ro D k)) x7 (nI j) s X1 X2 K := by
  have hR := (bkR hB).2.2
  obtain ⟨k1, k2, k3, k4, k5, k6, k7⟩ := mv_ok hB hk
  have hrk := ro_lt hB k1
  intro m
  induction m with
  | zero =>
    intro j hj hs
    rw [w_251_L68, nI_leI (by omega) (by omega)]
    refine br_t (by omega) (h1 (fun p hp => ?_))
    obtain ⟨i, hi, e⟩ := List.getElem_of_mem hp
    exact hs i p (by omega) (by rw [List.getElem?_eq_getElem hi, e])
  | succ m ih =>
    intro j hj hs
    have hjl : j < u.length := by omega
    have hg := List.getElem?_eq_getElem hjl
    obtain ⟨a1, a2⟩ := hU j _ hg
    have hra := ro_lt hB a2
    obtain ⟨_, _, _, _, b5, b6, _⟩ := mv_ok hB (hm _ (List.getElem_mem hjl))
    rw [w_251_L68, nI_leI (by omega) (by omega), nI_clamp (show j < 2 ^ 31 by omega), a1, nI_clamp (show ro D u[j] < 2 ^ 31 by omega), nI_clamp (show ro D k < 2 ^ 31 by omega), fD.2.1 59 rfl, b5, k5, nI_eq (by omega) (by omega), nI_1]
    refine br_f (by omega) ⟨pin_nI (by omega) (by omega), pin_nI (by omega) (by omega), pin_nI (by omega) (by omega), ?_⟩
    by_cases c : itP D u[j] = itP D k
    · exact br_f (fun z => z c) (h2 (fun z => z _ (List.getElem_mem hjl) c))
    · refine br_t c (ih (j + 1) (by omega) (fun i p hi hp => ?_))
      by_cases e : i = j
      · subst e
        rw [hg] at hp
        have e2 : u[i] = p := by injection hp
        rw [← e2]; exact c
      · exact hs i p (by omega) hp
theorem mp_251 {D s : ST} {p k hu : Nat} {r : List Nat} {days : Int32} {K : Int32 → ST → Prop} (hB : Bk D) (fD : Fr fsS D s) (rr : RW D (D.1 5500) s) (hl : (p :: r).length ≤ 5) (hch : CH D s (p :: r)) (hm : ∀ q, q ∈ p :: r → mvP D q = true) (hk : mvP D k = true) (hds : 0 ≤ days.toInt ∧ days.toInt ≤ 3999) (hhu : hu ≤ 100) (k1 : gR (mvP D) (hoP D) (itP D) (okP2 D days.toInt hu) (p :: r) k = true → K 1 s) (k0 : ¬ gR (mvP D) (hoP D) (itP D) (okP2 D days.toInt hu) (p :: r) k = true → K 0 s) : w_251 (nI (p :: r).length) (nI (ro D k)) days (nI hu) s K := by
  have hR := (bkR hB).2.2
  have h150 := nP_150 hB
  obtain ⟨a1, a2, a3, a4, a5, a6, a7⟩ := mv_ok hB hk
  obtain ⟨b1, b2, b3, b4, b5, b6, b7⟩ := mv_ok hB (hm p List.mem_cons_self)
  obtain ⟨c1, c2⟩ := CH_0 hch (rev_h p r)
  have hrk := ro_lt hB a1
  have hrp := ro_lt hB b1
  have hrf := ro_lt hB c2
  have hlr : (p :: r).length = r.length + 1 := rfl
  have z0 : (0 : Int32).toNatClampNeg = 0 := rfl
  have ed1 : nI (p :: r).length - (1 : Int32) = nI r.length := by
    show nI (r.length + 1) - nI 1 = _
    rw [nI_sub (by omega)]
    rfl
  have hch1 : s.2.1 103 r.length = nI (ro D p) := hch.1
  have hwk := wP_le hB k
  have hwf := wP_le hB (lst (p :: r))
  have hgr : gR (mvP D) (hoP D) (itP D) (okP2 D days.toInt hu) (p :: r) k = true ↔ ((dP D k - dP D (lst (p :: r)) ≤ days.toInt ∧ ((wP D k : Int) - wP D (lst (p :: r)) ≤ bdP D hu (lst (p :: r)) ∧ (wP D (lst (p :: r)) : Int) - wP D k ≤ bdP D hu (lst (p :: r)))) ∧ hoP D k = itP D p ∧ ∀ q, q ∈ p :: r → ¬ itP D q = itP D k) := by
    show (mvP D k && okP2 D days.toInt hu (lst (p :: r)) k && decide (hoP D k = itP D p) && !((p :: r).map (itP D)).contains (itP D k)) = true ↔ _
    unfold okP2
    rw [hk, Bool.true_and]
    simp only [Bool.and_eq_true, decide_eq_true_eq, Bool.not_eq_true']
    have hcn : ((p :: r).map (itP D)).contains (itP D k) = false ↔ ∀ q, q ∈ p :: r → ¬ itP D q = itP D k := by
      constructor
      · intro h q hq e
        have : ((p :: r).map (itP D)).contains (itP D k) = true := List.contains_iff_mem.mpr (List.mem_map.mpr ⟨q, hq, e⟩)
        rw [h] at this
        cases this
      · intro h
        cases e : ((p :: r).map (itP D)).contains (itP D k) with
        | false => rfl
        | true =>
          obtain ⟨q, q1, q2⟩ := List.mem_map.mp (List.contains_iff_mem.mp e)
          exact absurd q2 (h q q1)
    rw [hcn]
    constructor
    · intro ⟨⟨x1, x2⟩, x3⟩; exact ⟨x1, x2, x3⟩
    · intro ⟨x1, x2, x3⟩; exact ⟨⟨x1, x2⟩, x3⟩
  rw [hgr] at k1 k0
  have dk := day_rng hB a1
  have df := day_rng hB c2
  have ed : (D.2.1 60 (ro D k) - D.2.1 60 (ro D (lst (p :: r)))).toInt = dP D k - dP D (lst (p :: r)) := by
    have q1 : (D.2.1 60 (ro D k)).toInt = dP D k := rfl
    have q2 : (D.2.1 60 (ro D (lst (p :: r)))).toInt = dP D (lst (p :: r)) := rfl
    rw [t_sub (by omega) (by omega)]
    rfl
  have hmul : wP D (lst (p :: r)) * hu ≤ 1000000 * 100 := Nat.mul_le_mul hwf hhu
  have hbd : bdP D hu (lst (p :: r)) ≤ 1000000 := by
    unfold bdP
    omega
  have e100 : (100 : Int64) = lN 100 := rfl
  have eB : ((nI (wP D (lst (p :: r)))).toInt64 * (nI hu).toInt64) / (100 : Int64) = lN (bdP D hu (lst (p :: r))) := by
    rw [nI_l (by omega), nI_l (by omega), lN_mul, e100, pk_lDiv (by omega) (by omega) (by omega)]
    rfl
  have ea : (nI (wP D k) - nI (wP D (lst (p :: r)))).toInt = (wP D k : Int) - wP D (lst (p :: r)) := by
    rw [t_sub (by rw [nI_toInt (by omega), nI_toInt (by omega)]; omega) (by rw [nI_toInt (by omega), nI_toInt (by omega)]; omega), nI_toInt (by omega), nI_toInt (by omega)]
  have en : (-(nI (wP D k) - nI (wP D (lst (p :: r))))).toInt = (wP D (lst (p :: r)) : Int) - wP D k := by
    rw [t_neg (by rw [ea]; omega), ea]
    omega
  unfold w_251
  rw [z0, c1, nI_clamp (show ro D (lst (p :: r)) < 2 ^ 31 by omega), nI_clamp (show ro D k < 2 ^ 31 by omega), fD.2.1 60 rfl, ed1, nI_clamp (show r.length < 2 ^ 31 by omega), hch1, nI_clamp (show ro D p < 2 ^ 31 by omega), fD.2.1 58 rfl, fD.2.1 59 rfl, a3, b5, nI_eq (by omega) (by omega), rr.2.2.1 _ hrk, rr.2.2.1 _ hrf, wP_e hB a1, wP_e hB c2, eB, i_lt, ed, lg_cmp_gt, lg_cmp_le, Int64.lt_iff_toInt_lt, Int64.le_iff_toInt_le, Int32.toInt_toInt64, Int32.toInt_toInt64, lN_toInt (by omega), ea, en]
  refine ⟨rfl, pin_nI (by omega) (by omega), pin_nI (by omega) (by omega), ?_⟩
  by_cases d1 : days.toInt < dP D k - dP D (lst (p :: r))
  · exact br_t d1 (k0 (fun z => by have := z.1.1; omega))
  · refine br_f d1 ⟨pin_nI (by omega) (by omega), pin_nI (by omega) (by omega), pin_nI (by omega) (by omega), ?_⟩
    by_cases d2 : hoP D k = itP D p
    · refine br_t d2 ⟨pin_nI (by omega) (by omega), pin_nI (by omega) (by omega), pin_nI (by omega) (by omega), by decide, ?_⟩
      by_cases d3 : (bdP D hu (lst (p :: r)) : Int) < (wP D k : Int) - wP D (lst (p :: r))
      · exact br_t d3 (k0 (fun z => by have := z.1.2.1; omega))
      · refine br_f d3 ?_
        by_cases d4 : (wP D (lst (p :: r)) : Int) - wP D k ≤ bdP D hu (lst (p :: r))
        · refine br_t d4 ⟨(p :: r).reverse.length + 1, ?_⟩
          have go := l_251 (x7 := lN (bdP D hu (lst (p :: r)))) (u := (p :: r).reverse) (X1 := fun _ s1 => K 1 s1) (X2 := fun _ s2 => K 0 s2) (K := K) hB fD (by rw [List.length_reverse]; omega) (CH_at (p :: r) hch) (fun q hq => hm q (List.mem_reverse.mp hq)) hk (fun z => k1 ⟨⟨by omega, by omega, d4⟩, d2, fun q hq => z q (List.mem_reverse.mpr hq)⟩) (fun z => k0 (fun y => z (fun q hq => y.2.2 q (List.mem_reverse.mp hq)))) (p :: r).reverse.length 0 (by omega) (fun i q hi => absurd hi (by omega))
          rw [List.length_reverse] at go ⊢
          exact go
        · exact br_f d4 (k0 (fun z => d4 z.1.2.2))
    · exact br_f d2 (k0 (fun z => d2 z.2.1))
