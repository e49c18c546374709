/-! ===== the class's rounder: whole ===== -/
abbrev RCD (D : ST) (ds : Int) (hu : Nat) : Nat → List Nat → Nat → Nat := RC (mvP D) (hoP D) (itP D) (okP2 D ds hu)
theorem RC_first {D : ST} {ds : Int} {hu f m : Nat} (hB : Bk D) (hm : mvP D f = true) : RCD D ds hu m [f] (f + 1) = vf D ds hu f m (f + 1) (sty (hoP D f) (itP D f), 2 ^ sty (hoP D f) (itP D f)) := by
  obtain ⟨f1, f2, f3, f4, f5, f6, f7⟩ := mv_ok hB hm
  have hs9 := sty_lt f4 f6 f7
  refine RC_VV (f := f) rfl f4 (fun k hk => ?_) m [] f (f + 1) (2 ^ sty (hoP D f) (itP D f)) rfl ?_ ?_ ?_ ?_
  · obtain ⟨_, _, _, k4, _, k6, _⟩ := mv_ok hB hk
    exact ⟨k6, k4⟩
  · intro q hq
    rw [List.mem_singleton.mp hq]
    exact ⟨f6, f7⟩
  · intro h h1 h2
    rw [Nat.testBit_two_pow, List.map_cons, List.contains_cons]
    show (h == itP D f || false) = _
    rw [Bool.or_false]
    by_cases c : h = itP D f
    · rw [c, decide_eq_true rfl, beq_self_eq_true]
    · rw [decide_eq_false (fun y => c (sty_inj h2 f7 y.symm)), beq_eq_false_iff_ne.mpr c]
  · have := pcT (b := sty (hoP D f) (itP D f)) (S := 0) hs9 (by omega) (Nat.zero_testBit _)
    rw [Nat.zero_or] at this
    rw [this]
    rfl
  · have := or_512 (b := sty (hoP D f) (itP D f)) (S := 0) hs9 (by omega)
    rw [Nat.zero_or] at this
    exact this
theorem mp_99 {D s : ST} {f hu : Nat} {days : Int32} {K : Int32 → ST → Prop} (hB : Bk D) (v0 : VW D (D.1 5500) s) (hj : Jrnd s) (hm : mvP D f = true) (hds : 0 ≤ days.toInt ∧ days.toInt ≤ 3999) (hhu : hu ≤ 100) (k : ∀ s1, Fr fqRd s s1 → Jrnd s1 → K (nI (min 100000 (RCD D days.toInt hu (nP D - (f + 1)) [f] (f + 1)))) s1) : w_99 (nI f) days (nI hu) s K := by
  have h150 := nP_150 hB
  obtain ⟨f1, f2, f3, f4, f5, f6, f7⟩ := mv_ok hB hm
  have hs9 := sty_lt f4 f6 f7
  have hwf := wP_le hB f
  have hrf := ro_lt hB f1
  have hmul : wP D f * hu ≤ 1000000 * 100 := Nat.mul_le_mul hwf hhu
  have e100 : (100 : Int32) = nI 100 := rfl
  have e16 : fcI D (ro D f) = nI (itP D f) := by
    unfold fcI
    rw [if_pos f2]; exact f5
  unfold w_99
  rw [wAtR hB v0 f1, cc1 hB v0.2.1.1 hrf, w119r hB v0 f1]
  refine ⟨by decide, ?_⟩
  rw [cc3 hB v0.2.1.1 hrf, w16v hB v0.2.1.1 hrf, e16, f3]
  refine mp_100 f6 f4 ?_
  rw [if_neg f7]
  refine mp_106 (u0 := sty (hoP D f) (itP D f)) (W := fun _ => 0) hj ?_
  intro s1 g1 h1
  obtain ⟨o1, o2, o3⟩ := or_ok (S := 0) hs9 (by omega)
  rw [o3]
  have p1 : pcN 12 (2 ^ sty (hoP D f) (itP D f)) = 1 := by
    have := pcT (b := sty (hoP D f) (itP D f)) (S := 0) hs9 (by omega) (Nat.zero_testBit _)
    rw [Nat.zero_or] at this
    rw [this]
    rfl
  have p2 : 2 ^ sty (hoP D f) (itP D f) < 512 := by
    have := or_512 (b := sty (hoP D f) (itP D f)) (S := 0) hs9 (by omega)
    rw [Nat.zero_or] at this
    exact this
  have e1 : (1 : Int32) = nI 1 := rfl
  rw [show w_105 (nI (sty (hoP D f) (itP D f))) (nI (2 ^ sty (hoP D f) (itP D f))) 1 = w_105 (nI (sty (hoP D f) (itP D f))) (nI (2 ^ sty (hoP D f) (itP D f))) (nI 1) from rfl]
  refine mp_105 h1 hs9 p2 (by rw [Nat.testBit_two_pow, decide_eq_true rfl]) ⟨by omega, hs9, by rw [Nat.testBit_two_pow, decide_eq_true rfl], fun _ => rfl⟩ (by omega) (by omega) ?_
  intro s2 L2 W2 g2 h2 hs2 _
  refine ⟨nP D - (f + 1) + 1, ?_⟩
  rw [nI_1, e100, pk_mul, pk_div (by omega) (by omega) (by omega)]
  have g02 : Fr fqRd s s2 := fr_tr (F := fqRd) rfl g1 g2
  have hd0 := day_rng hB f1
  have hl : (D.2.1 60 (ro D f) + days).toInt = dP D f + days.toInt := by
    have : (D.2.1 60 (ro D f)).toInt = dP D f := rfl
    rw [t_add (by omega) (by omega)]
    rfl
  have go := l_99 (S0 := s2) (f := f) (hu := hu) (ds := days.toInt) (last := D.2.1 60 (ro D f) + days) (T := min 100000 (RCD D days.toInt hu (nP D - (f + 1)) [f] (f + 1))) (X1 := fun y10 s35 => K y10 s35) (X2 := fun y10 s36 => K y10 s36) (K := K) hB (VW_g g02 v0) hm hhu hl ?_ ?_ (nP D - (f + 1)) (f + 1) s2 L2 W2 0 (by omega) (by omega) (fr_rfl _ _) h2 (by omega) ?_
  · exact go
  · intro s3 L3 W3 g3 h3
    exact k s3 (fr_tr (F := fqRd) rfl g02 g3) (RI_J h3)
  · intro s3 L3 W3 g3 h3
    exact k s3 (fr_tr (F := fqRd) rfl g02 g3) (RI_J h3)
  · rw [hs2 (vf D days.toInt hu f (nP D - (f + 1)) (f + 1)) 0, RC_first hB hm, sumL_nil]
    congr 1
    omega
theorem l_97 {D S0 : ST} {hu T : Nat} {days : Int32} {X K : Int32 → ST → Prop} (hB : Bk D) (v0 : VW D (D.1 5500) S0) (hds : 0 ≤ days.toInt ∧ days.toInt ≤ 3999) (hhu : hu ≤ 100) (hX : ∀ s, Fr fqRd S0 s → Jrnd s → X (nI T) s) : ∀ m p acc s, p + m = nP D → Fr fqRd S0 s → Jrnd s → acc ≤ 100000 → min 100000 (acc + RCD D days.toInt hu m [] p) = T → w_97_L4 (m + 1) days (nI hu) (nI acc) (nI p) s X K := by
  have h150 := nP_150 hB
  have eM : (100000 : Int32) = nI 100000 := rfl
  intro m
  induction m with
  | zero =>
    intro p acc s hp fr hj ha ht
    have v := VW_g fr v0
    have e801 : s.1 801 = nI (nP D) := v.2.1.2.1
    rw [w_97_L4, e801, nI_leI (by omega) (by omega)]
    refine br_t (by omega) ?_
    have e0 : RCD D days.toInt hu 0 [] p = 0 := rfl
    rw [e0] at ht
    rw [show acc = T by omega]
    exact hX s fr hj
  | succ m ih =>
    intro p acc s hp fr hj ha ht
    have v := VW_g fr v0
    have hpn : p < nP D := by omega
    have hrp := ro_lt hB hpn
    have e801 : s.1 801 = nI (nP D) := v.2.1.2.1
    rw [w_97_L4, e801, eM, nI_leI (by omega) (by omega), nI_leI (by omega) (by omega), ← eM]
    refine br_f (by omega) ?_
    by_cases c : 100000 ≤ acc
    · refine br_t c ?_
      rw [show acc = T by omega]
      exact hX s fr hj
    · refine br_f c ?_
      unfold w_98
      rw [wAtR hB v hpn, cc0 hB v.2.1.1 hrp, nI_1]
      have er : RCD D days.toInt hu (m + 1) [] p = (if mvP D p = true then RCD D days.toInt hu m [p] (p + 1) else 0) + RCD D days.toInt hu m [] (p + 1) := by
        show RC (mvP D) (hoP D) (itP D) (okP2 D days.toInt hu) (m + 1) [] p = _
        rw [RC]
        congr 1
      rw [er] at ht
      by_cases d : D.2.1 57 (ro D p) = 2
      · refine br_f (fun z => z d) (br_f (by decide) ?_)
        have hm := (mv_no hpn).mpr d
        rw [if_pos hm] at ht
        refine mp_99 hB v hj hm hds hhu ?_
        intro s1 f1 hj1
        rw [satI ha (by omega)]
        refine ih (p + 1) _ s1 (by omega) (fr_tr (F := fqRd) rfl fr f1) hj1 (by omega) ?_
        rw [show nP D - (p + 1) = m by omega]
        omega
      · refine br_t d (br_t rfl ?_)
        rw [if_neg (fun z => d ((mv_no hpn).mp z)), Nat.zero_add] at ht
        exact ih (p + 1) acc s (by omega) fr hj ha ht
theorem mp_97 {D s : ST} {hu : Nat} {days : Int32} {K : Int32 → ST → Prop} (hB : Bk D) (v0 : VW D (D.1 5500) s) (hj : Jrnd s) (hds : 0 ≤ days.toInt ∧ days.toInt ≤ 3999) (hhu : hu ≤ 100) (k : ∀ s1, Fr fqRd s s1 → Jrnd s1 → K (nI (min 100000 (RCD D days.toInt hu (nP D) [] 0))) s1) : w_97 days (nI hu) s K := by
  refine ⟨nP D + 1, ?_⟩
  have go := l_97 (X := fun y3 s7 => K y3 s7) (K := K) hB v0 hds hhu k (nP D) 0 0 s (by omega) (fr_rfl _ _) hj (by omega) (by rw [Nat.zero_add])
  exact go
