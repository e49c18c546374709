/-! ===== the class's rounder: from a first move; all of them ===== -/
def mvP (D : ST) (k : Nat) : Bool := decide (k < nP D) && decide (D.2.1 57 (ro D k) = 2)
def hoP (D : ST) (k : Nat) : Nat := (D.2.1 58 (ro D k)).toNatClampNeg
def itP (D : ST) (k : Nat) : Nat := (D.2.1 59 (ro D k)).toNatClampNeg
def bdP (D : ST) (hu f : Nat) : Nat := wP D f * hu / 100
def okP2 (D : ST) (ds : Int) (hu : Nat) (f k : Nat) : Bool := decide (dP D k - dP D f ≤ ds) && decide ((wP D k : Int) - wP D f ≤ bdP D hu f ∧ (wP D f : Int) - wP D k ≤ bdP D hu f)
theorem mv_ok {D : ST} (hB : Bk D) {k : Nat} (h : mvP D k = true) : k < nP D ∧ D.2.1 57 (ro D k) = 2 ∧ D.2.1 58 (ro D k) = nI (hoP D k) ∧ hoP D k < 10 ∧ D.2.1 59 (ro D k) = nI (itP D k) ∧ itP D k < 10 ∧ ¬ itP D k = hoP D k := by
  unfold mvP at h
  simp only [Bool.and_eq_true, decide_eq_true_eq] at h
  have r := (hB.2.2.1.2.2.2 _ (ro_lt hB h.1)).2
  unfold Rok at r
  have e2 : (D.2.1 57 (ro D k)).toInt = 2 := by rw [h.2]; rfl
  have hh := hB.2.1.2.2.1
  have e58 : 0 ≤ (D.2.1 58 (ro D k)).toInt := by omega
  have e59 : 0 ≤ (D.2.1 59 (ro D k)).toInt := by omega
  have n58 : hoP D k = (D.2.1 58 (ro D k)).toInt.toNat := rfl
  have n59 : itP D k = (D.2.1 59 (ro D k)).toInt.toNat := rfl
  exact ⟨h.1, h.2, nI_nat e58, by omega, nI_nat e59, by omega, by omega⟩
theorem mv_no {D : ST} {k : Nat} (hk : k < nP D) : mvP D k = true ↔ D.2.1 57 (ro D k) = 2 := by
  unfold mvP
  rw [decide_eq_true hk, Bool.true_and, decide_eq_true_eq]
theorem mp_100 {s : ST} {h home : Nat} {K : Int32 → ST → Prop} (h1 : h < 10) (h2 : home < 10) (k : K (if h = home then -1 else nI (sty home h)) s) : w_100 (nI h) (nI home) s K := by
  unfold w_100
  rw [nI_eq (by omega) (by omega), nI_leI (by omega) (by omega)]
  by_cases c : h = home
  · rw [if_pos c] at k
    exact br_f (fun z => z c) k
  · rw [if_neg c] at k
    refine br_t c ?_
    unfold sty at k
    by_cases d : home ≤ h
    · rw [if_pos d] at k
      refine br_t d ?_
      have e : nI h - (1 : Int32) = nI (h - 1) := nI_sub (b := 1) (by omega)
      rw [e]
      exact k
    · rw [if_neg d] at k
      exact br_f d k
abbrev okf (D : ST) (ds : Int) (hu f : Nat) : Nat → Bool := fun k => mvP D k && okP2 D ds hu f k
def vf (D : ST) (ds : Int) (hu f m k : Nat) (z : Nat × Nat) : Nat := VV (hoP D) (itP D) (okf D ds hu f) (hoP D f) m z.1 z.2 k
theorem VV_0 {D : ST} {ds : Int} {hu f : Nat} : ∀ m k a S, (∀ k2, k ≤ k2 → okf D ds hu f k2 = false) → VV (hoP D) (itP D) (okf D ds hu f) (hoP D f) m a S k = 0
  | 0, _, _, _, _ => rfl
  | m + 1, k, a, S, h => by
    rw [VV, VV_0 m (k + 1) a S (fun k2 hk => h k2 (by omega)), if_neg (fun z => by have := z.1; rw [h k (Nat.le_refl _)] at this; cases this)]
theorem vf_skip {D : ST} {ds : Int} {hu f m k : Nat} {W : Nat × Nat → Nat} {L : List (Nat × Nat)} (h : ¬ (okf D ds hu f k = true ∧ ¬ hoP D k = hoP D f)) : sumL L (fun z => W z * vf D ds hu f (m + 1) k z) = sumL L (fun z => W z * vf D ds hu f m (k + 1) z) := by
  refine sumL_congr L (fun z _ => ?_)
  show W z * VV (hoP D) (itP D) (okf D ds hu f) (hoP D f) (m + 1) z.1 z.2 k = _
  rw [VV, if_neg (fun y => h ⟨y.1, y.2.1⟩), Nat.zero_add]
  rfl
theorem vf_go {D : ST} {ds : Int} {hu f m k : Nat} {W : Nat × Nat → Nat} {L : List (Nat × Nat)} (h1 : okf D ds hu f k = true) (h2 : ¬ hoP D k = hoP D f) : sumL L (fun z => W z * vf D ds hu f (m + 1) k z) = sumL (Lf L (sty (hoP D f) (hoP D k))) (fun z => if itP D k = hoP D f then W z else GG W (vf D ds hu f m (k + 1)) (sty (hoP D f) (itP D k)) z) + sumL L (fun z => W z * vf D ds hu f m (k + 1) z) := by
  rw [sumL_f, ← sumL_add]
  refine sumL_congr L (fun z _ => ?_)
  show W z * VV (hoP D) (itP D) (okf D ds hu f) (hoP D f) (m + 1) z.1 z.2 k = _
  rw [VV]
  by_cases c : z.1 = sty (hoP D f) (hoP D k)
  · rw [if_pos ⟨h1, h2, c.symm⟩, if_pos c, Nat.mul_add]
    congr 1
    by_cases d : itP D k = hoP D f
    · rw [if_pos d, if_pos d, Nat.mul_one]
    · rw [if_neg d, if_neg d]
      unfold GG
      by_cases e : z.2.testBit (sty (hoP D f) (itP D k)) = false ∧ pcN 12 z.2 < 5
      · rw [if_pos e, if_pos e]
        rfl
      · rw [if_neg e, if_neg e, Nat.mul_zero]
  · rw [if_neg (fun y => c y.2.2.symm), if_neg c, Nat.zero_add, Nat.zero_add]
    rfl
theorem sumL_z {g : Nat × Nat → Nat} : ∀ L, (∀ x, x ∈ L → g x = 0) → sumL L g = 0
  | [], _ => rfl
  | x :: L, e => by rw [sumL_cons, e x List.mem_cons_self, sumL_z L (fun y hy => e y (List.mem_cons_of_mem _ hy))]
theorem l_99 {u0 : Nat} {D S0 : ST} {f hu T : Nat} {ds : Int} {last : Int32} {X1 X2 K : Int32 → ST → Prop} (hB : Bk D) (v0 : VW D (D.1 5500) S0) (hmf : mvP D f = true) (hhu : hu ≤ 100) (hlast : last.toInt = dP D f + ds) (hX1 : ∀ s L W, Fr fqRd S0 s → RI u0 s L W → X1 (nI T) s) (hX2 : ∀ s L W, Fr fqRd S0 s → RI u0 s L W → X2 (nI T) s) : ∀ m k s L W r, k + m = nP D → f < k → Fr fqRd S0 s → RI u0 s L W → r ≤ 100000 → min 100000 (r + sumL L (fun z => W z * vf D ds hu f m k z)) = T → w_99_L52 (m + 1) (nI (hoP D f)) (nI (wP D f)) (nI (bdP D hu f)) last (nI r) (nI k) s X1 X2 K := by
  have h150 := nP_150 hB
  obtain ⟨f1, f2, f3, f4, f5, f6, f7⟩ := mv_ok hB hmf
  have hwf := wP_le hB f
  have hbd : bdP D hu f ≤ 1000000 := by
    unfold bdP
    have : wP D f * hu ≤ 1000000 * 100 := Nat.mul_le_mul hwf hhu
    omega
  have eM : (100000 : Int32) = nI 100000 := rfl
  intro m
  induction m with
  | zero =>
    intro k s L W r hk hfk fr h hr ht
    have v := VW_g fr v0
    have e801 : s.1 801 = nI (nP D) := v.2.1.2.1
    rw [w_99_L52, e801, nI_leI (by omega) (by omega)]
    refine br_t (by omega) ?_
    have e0 : sumL L (fun z => W z * vf D ds hu f 0 k z) = 0 := by
      exact sumL_z L (fun z _ => rfl)
    rw [e0] at ht
    rw [show r = T by omega]
    exact hX1 s L W fr h
  | succ m ih =>
    intro k s L W r hk hfk fr h hr ht
    have v := VW_g fr v0
    have hkn : k < nP D := by omega
    have e801 : s.1 801 = nI (nP D) := v.2.1.2.1
    have hrk := ro_lt hB hkn
    have fD := v.2.1.1
    have hwk := wP_le hB k
    rw [w_99_L52, e801, eM, nI_leI (by omega) (by omega), nI_leI (by omega) (by omega), ← eM]
    refine br_f (by omega) ?_
    by_cases c0 : 100000 ≤ r
    · refine br_t c0 ?_
      rw [show r = T by omega]
      exact hX1 s L W fr h
    refine br_f c0 ?_
    rw [wAtR hB v hkn, cc3 hB fD hrk, i_le, hlast, nI_1]
    have ed : (D.2.1 60 (ro D k)).toInt = dP D k := rfl
    rw [ed]
    by_cases c1 : dP D k ≤ dP D f + ds
    · refine br_t c1 ?_
      have skip : ¬ (okf D ds hu f k = true ∧ ¬ hoP D k = hoP D f) → w_99_L52 (m + 1) (nI (hoP D f)) (nI (wP D f)) (nI (bdP D hu f)) last (nI r) (nI (k + 1)) s X1 X2 K := by
        intro hn
        rw [vf_skip hn] at ht
        exact ih (k + 1) s L W r (by omega) (by omega) fr h hr ht
      unfold w_98
      rw [cc0 hB fD hrk]
      by_cases c2 : D.2.1 57 (ro D k) = 2
      · refine br_f (fun z => z c2) (br_f (by decide) ?_)
        have hmk := (mv_no hkn).mpr c2
        obtain ⟨k1, k2, k3, k4, k5, k6, k7⟩ := mv_ok hB hmk
        rw [w119r hB v hkn]
        have ea : (nI (wP D k) - nI (wP D f)).toInt = (wP D k : Int) - wP D f := by
          rw [t_sub (by rw [nI_toInt (by omega), nI_toInt (by omega)]; omega) (by rw [nI_toInt (by omega), nI_toInt (by omega)]; omega), nI_toInt (by omega), nI_toInt (by omega)]
        have eb : (0 - (nI (wP D k) - nI (wP D f)) : Int32).toInt = (wP D f : Int) - wP D k := by
          rw [t_sub (by rw [ea, l_0]; omega) (by rw [ea, l_0]; omega), ea, l_0]
          omega
        have ab : (nI (bdP D hu f) < (if 0 ≤ (nI (wP D k) - nI (wP D f)) then (nI (wP D k) - nI (wP D f)) else 0 - (nI (wP D k) - nI (wP D f)))) ↔ ¬ ((wP D k : Int) - wP D f ≤ bdP D hu f ∧ (wP D f : Int) - wP D k ≤ bdP D hu f) := by
          rw [i_lt, nI_toInt (by omega)]
          by_cases z : 0 ≤ (nI (wP D k) - nI (wP D f))
          · rw [if_pos z, ea]
            rw [i_le, ea, l_0] at z
            omega
          · rw [if_neg z, eb]
            rw [i_le, ea, l_0] at z
            omega
        rw [ab]
        by_cases c3 : (wP D k : Int) - wP D f ≤ bdP D hu f ∧ (wP D f : Int) - wP D k ≤ bdP D hu f
        · refine br_f (fun z => z c3) ?_
          have hok : okf D ds hu f k = true := by
            show (mvP D k && okP2 D ds hu f k) = true
            unfold okP2
            rw [hmk, decide_eq_true (show dP D k - dP D f ≤ ds by omega), decide_eq_true c3]
            rfl
          have e16 : fcI D (ro D k) = nI (itP D k) := by
            unfold fcI
            rw [if_pos c2]; exact k5
          rw [cc1 hB fD hrk, k3]
          refine mp_100 k4 f4 ?_
          rw [w16v hB fD hrk, e16]
          refine mp_100 k6 f4 ?_
          by_cases d1 : hoP D k = hoP D f
          · rw [if_pos d1]
            have e8 : (8 : Int32).toInt = 8 := rfl
            unfold w_101
            simp only [e_181, t_181, l_0, e8, l_m1]
            refine br_t (by omega) ⟨1, ?_⟩
            rw [w_101_L16]
            refine br_t (by decide) ?_
            have e00 : (0 : Int32) = nI 0 := rfl
            rw [e00, satI hr (by omega), show min 100000 (r + 0) = r by omega]
            exact skip (fun z => z.2 d1)
          · rw [if_neg d1]
            have hs9 := sty_lt f4 k4 d1
            rw [vf_go hok d1] at ht
            have e8 : (8 : Int32).toInt = 8 := rfl
            unfold w_101
            simp only [e_181, t_181, l_0, e8]
            rw [nI_toInt (by omega), nI_clamp (by omega), h.2.2.2.1 _ hs9]
            refine br_f (fun z => z ⟨by omega, by omega⟩) ⟨pin_nI hs9 (by omega), (Lf L (sty (hoP D f) (hoP D k))).length + 1, ?_⟩
            by_cases d2 : itP D k = hoP D f
            · rw [if_pos d2]
              refine l_101h (T := min 100000 (0 + sumL ((Lf L (sty (hoP D f) (hoP D k))).drop 0) W)) h hs9 ?_ _ 0 0 (by omega) (by omega) rfl
              rw [List.drop_zero, Nat.zero_add, satI hr (by omega)]
              refine ih (k + 1) s L W _ (by omega) (by omega) fr h (by omega) ?_
              rw [sumL_congr (h := W) _ (fun z _ => by rw [if_pos d2])] at ht
              omega
            · rw [if_neg d2]
              have hb9 := sty_lt f4 k6 d2
              refine l_101b (S0 := s) (L := L) (W := W) hs9 hb9 (fun z => k7 (sty_inj d1 d2 z).symm) (RI_len h hs9) ?_ _ 0 s L W (by omega) (fr_rfl _ _) h rfl (fun z _ => rfl) (fun v x => by rw [List.drop_zero])
              intro s2 L2 W2 f2 h2 hs2
              have e00 : (0 : Int32) = nI 0 := rfl
              rw [e00, satI hr (by omega), show min 100000 (r + 0) = r by omega]
              refine ih (k + 1) s2 L2 W2 r (by omega) (by omega) (fr_tr (F := fqRd) rfl fr f2) h2 hr ?_
              rw [hs2 (vf D ds hu f m (k + 1)) r, ← ht]
              congr 1
              rw [sumL_congr (g := fun z => if itP D k = hoP D f then W z else GG W (vf D ds hu f m (k + 1)) (sty (hoP D f) (itP D k)) z) (h := GG W (vf D ds hu f m (k + 1)) (sty (hoP D f) (itP D k))) _ (fun z _ => by rw [if_neg d2])]
              omega
        · refine br_t c3 (skip (fun z => ?_))
          have := z.1
          unfold okf okP2 at this
          rw [decide_eq_false c3, Bool.and_false, Bool.and_false] at this
          cases this
      · refine br_t c2 (br_t rfl (skip (fun z => ?_)))
        have hz : (mvP D k && okP2 D ds hu f k) = true := z.1
        exact c2 ((mv_no hkn).mp (Bool.and_eq_true_iff.mp hz).1)
    · refine br_f c1 ?_
      have e0 : sumL L (fun z => W z * vf D ds hu f (m + 1) k z) = 0 := by
        refine sumL_z L (fun z _ => ?_)
        show W z * VV (hoP D) (itP D) (okf D ds hu f) (hoP D f) (m + 1) z.1 z.2 k = 0
        rw [VV_0 (m + 1) k z.1 z.2 (fun k2 hk2 => ?_), Nat.mul_zero]
        show (mvP D k2 && okP2 D ds hu f k2) = false
        by_cases q : k2 < nP D
        · have := dP_mono (D := D) hk2 q
          unfold okP2
          rw [decide_eq_false (show ¬ dP D k2 - dP D f ≤ ds by omega), Bool.false_and, Bool.and_false]
        · unfold mvP
          rw [decide_eq_false q, Bool.false_and, Bool.false_and]
      rw [e0] at ht
      rw [show r = T by omega]
      exact hX2 s L W fr h
