/-! ===== best, judge, feed; printed by wip/whole/geneasy2.py ===== -/
theorem pw9 {G : Nat} (h : G ≤ 9) : 2 ^ G ≤ 512 ∧ 0 < 2 ^ G := by
  have hc : 2 ^ G ≤ 2 ^ 9 := Nat.pow_le_pow_right (by omega) h
  exact ⟨by omega, Nat.pos_of_ne_zero (by have := Nat.two_pow_pos G; omega)⟩
theorem sp_31 {t : Nat} {s : ST} {X F : ST → Prop} (a1 : Int32) (h : J t s) (hX : ∀ s1, J (t + 1) s1 → X s1) : st_31 a1 s X F := by
  obtain ⟨hnow, hhou, hrow, hord, hmen, htap, hthi, hjud, hask, hrea, hsca, hvie, hrul, hrnd, hroo⟩ := h
  simp only [st_31, w_176, w_279, e_181, t_181, e_186, t_186, sI_1, sI_2, sA_1, sA_21, sA_22, va_ap, upd_ap, Nat.reduceEqDiff, if_true, if_false, Int32.reduceToInt]
  by_cases c : 0 ≤ a1.toInt ∧ a1.toInt ≤ 10000
  · simp (decide := true) only [c, not_true_eq_false, not_false_eq_true, true_implies, false_implies, implies_true, true_and, and_true, false_and, and_false, Nat.reduceEqDiff, if_true, if_false, and_self, eq_self, reduceIte]
    have hG : s.1 5579 = nI (nG s) := nI_nat hrea.2.1
    have h9 : nG s ≤ 9 := by show (s.1 5579).toInt.toNat ≤ 9; have := hrea.2.2.1; omega
    have hp := pw9 h9
    unfold w_94
    refine ⟨600, l_94 (G := nG s) (by rw [hrea.1]; exact hG) h9 (fun k hk => (hrea.2.2.2 k hk).1) (fun k hk => (hrea.2.2.2 k hk).2.1) (fun k hk => (hrea.2.2.2 k hk).2.2.1) ?_ 600 0 (by omega) (by omega)⟩
    refine ⟨600, l_279 hG h9 ?_ 600 0 (by omega) (by omega)⟩
    exact ⟨fun _ => (hX _ ⟨hnow, hhou, hrow, hord, hmen, htap, hthi, hjud, hask, hrea, hsca, hvie, hrul, hrnd, Jroo_s hroo⟩), fun z => absurd rfl z⟩
  · simp (decide := true) only [c, not_true_eq_false, not_false_eq_true, true_implies, false_implies, implies_true, true_and, and_true, false_and, and_false, Nat.reduceEqDiff, if_true, if_false, and_self, eq_self, reduceIte]
    exact hX _ ⟨hnow, hhou, hrow, hord, hmen, htap, hthi, hjud, hask, hrea, hsca, hvie, hrul, hrnd, Jroo_s hroo⟩
theorem sp_32 {t : Nat} {s : ST} {X F : ST → Prop} (a1 : Int32) (h : J t s) (hX : ∀ s1, J (t + 1) s1 → X s1) : st_32 a1 s X F := by
  obtain ⟨hnow, hhou, hrow, hord, hmen, htap, hthi, hjud, hask, hrea, hsca, hvie, hrul, hrnd, hroo⟩ := h
  have hG : s.1 5579 = nI (nG s) := nI_nat hrea.2.1
  have h9 : nG s ≤ 9 := by show (s.1 5579).toInt.toNat ≤ 9; have := hrea.2.2.1; omega
  have hp := pw9 h9
  have em : (nI (2 ^ nG s) - 1).toInt = ((2 ^ nG s : Nat) : Int) - 1 := by
    rw [t_sub (b := 1) (by rw [l_1, nI_toInt (by omega)]; omega) (by rw [l_1, nI_toInt (by omega)]; omega), l_1, nI_toInt (by omega)]
  simp only [st_32, w_177, w_280, w_90, hrea.1, hG, shl_G h9, e_181, t_181, e_186, t_186, em, sI_1, sI_2, sA_1, sA_21, sA_22, va_ap, upd_ap, Nat.reduceEqDiff, if_true, if_false, Int32.reduceToInt]
  by_cases c : 0 ≤ a1.toInt ∧ a1.toInt ≤ ((2 ^ nG s : Nat) : Int) - 1
  · simp (decide := true) only [c, not_true_eq_false, not_false_eq_true, true_implies, false_implies, implies_true, true_and, and_true, false_and, and_false, Nat.reduceEqDiff, if_true, if_false, and_self, eq_self, reduceIte]
    obtain ⟨m, hm, rfl⟩ := of_rng (n := 2 ^ nG s) c.1 (by omega)
    have k2 := sumS_eq (m := m) hm (fun k hk => (hrea.2.2.2 k hk).2.1) 9 h9 (by omega)
    have k5 := wo_eq (m := m) hm (fun k hk => (hrea.2.2.2 k hk).2.2.1) 9 h9 (by omega)
    refine sp_91 ?_
    rw [k5]
    by_cases a : wo (s.2.1 117) (nI m) (nG s) = true
    · rw [if_pos a]
      refine br_t rfl ?_
      refine sp_92 ?_
      rw [k2]
      simp (decide := true) only [hG, shl_G h9, em, c.2, not_true_eq_false, not_false_eq_true, true_implies, false_implies, implies_true, true_and, and_true, false_and, and_false, Nat.reduceEqDiff, if_true, if_false, and_self, eq_self, reduceIte]
      refine sp_277 hG h9 ?_
      rw [if_pos a]
      refine br_f (by decide) ?_
      refine sp_278 hG h9 ?_
      rw [if_pos rfl]
      exact ⟨fun _ => (hX _ ⟨hnow, hhou, hrow, hord, hmen, htap, hthi, hjud, hask, hrea, hsca, hvie, hrul, hrnd, Jroo_s hroo⟩), fun z => absurd rfl z⟩
    · rw [if_neg a]
      refine br_f (by decide) ?_
      simp (decide := true) only [hG, shl_G h9, em, c.2, not_true_eq_false, not_false_eq_true, true_implies, false_implies, implies_true, true_and, and_true, false_and, and_false, Nat.reduceEqDiff, if_true, if_false, and_self, eq_self, reduceIte]
      refine sp_277 hG h9 ?_
      rw [if_neg a]
      refine br_t rfl ?_
      first
      | exact (hX _ ⟨hnow, hhou, hrow, hord, hmen, htap, hthi, hjud, hask, hrea, hsca, hvie, hrul, hrnd, Jroo_s hroo⟩)
      | exact ⟨fun _ => (hX _ ⟨hnow, hhou, hrow, hord, hmen, htap, hthi, hjud, hask, hrea, hsca, hvie, hrul, hrnd, Jroo_s hroo⟩), fun z => absurd rfl z⟩
  · simp (decide := true) only [c, not_true_eq_false, not_false_eq_true, true_implies, false_implies, implies_true, true_and, and_true, false_and, and_false, Nat.reduceEqDiff, if_true, if_false, and_self, eq_self, reduceIte]
    exact hX _ ⟨hnow, hhou, hrow, hord, hmen, htap, hthi, hjud, hask, hrea, hsca, hvie, hrul, hrnd, Jroo_s hroo⟩
theorem bm256 (x : Int) : (x.bmod (2 ^ 8)) % 256 = x % 256 := by
  rw [Int.bmod_def]
  split <;> omega
theorem tn_t (x : Int32) : x.toInt % 256 = (x.toBitVec.toNat % 256 : Nat) := by
  have h : x.toInt = x.toBitVec.toInt := rfl
  rw [h, BitVec.toInt_eq_toNat_cond]
  split <;> omega
theorem byte_eq {x s1 s2 : Int32} (k : Nat) (hk : k = 0 ∨ k = 8 ∨ k = 16 ∨ k = 24) (h1 : ((s1.toUInt32 &&& Int32.toUInt32 31).toBitVec % 32).toNat = k) (h2 : (s2.toBitVec.smod 32).toNat = k) : ((x.toUInt32 >>> (s1.toUInt32 &&& Int32.toUInt32 31)).toInt32) &&& 255 = ((x >>> s2).toInt8.toInt32) &&& 255 := by
  rw [pk_and _ (m := 255) 8 rfl, pk_and _ (m := 255) 8 rfl, pk_ushr x s1 k h1]
  have e1 := tn_t ((x >>> s2).toInt8.toInt32)
  rw [Int8.toInt_toInt32, Int32.toInt_toInt8, bm256, pk_shr x s2 k h2] at e1
  have e2 : x.toInt = x.toBitVec.toInt := rfl
  rw [BitVec.toInt_eq_toNat_cond] at e2
  have e3 := x.toBitVec.isLt
  congr 1
  rcases hk with hk | hk | hk | hk <;> subst hk <;> rw [Int.shiftRight_eq_div_pow] at e1 <;> (split at e2 <;> omega)
def app4 (f : Nat → Int32) (t : Nat) (g : Nat → Int32) : Nat → Int32 := fun j => if t ≤ j ∧ j < t + 4 then g (t + 3 - j) else f j
theorem app4_eq {f g c r : Nat → Int32} {t : Nat} (h : ∀ j, j < 200 → f j = g j &&& 255) (hc : ∀ k, k < 4 → c k = r k &&& 255) : ∀ j, j < 200 → app4 f t c j = app4 g t r j &&& 255 := by
  intro j hj
  unfold app4
  by_cases e : t ≤ j ∧ j < t + 4
  · rw [if_pos e, if_pos e]; exact hc _ (by omega)
  · rw [if_neg e, if_neg e]; exact h j hj
def cB (p : Int32) (k : Nat) : Int32 := (((p).toUInt32 >>> ((nI (8 * k)).toUInt32 &&& Int32.toUInt32 31)).toInt32) &&& (255 : Int32)
def rB (p : Int32) (k : Nat) : Int32 := vp_nar .byte (((p >>> (((8 : Int32) * nI k) &&& 31))).toInt8.toInt32)
theorem cr_B (p : Int32) : ∀ k, k < 4 → cB p k = rB p k &&& 255
  | 0, _ => (byte_eq (s1 := nI (8 * 0)) (s2 := ((8 : Int32) * nI 0) &&& 31) 0 (by omega) rfl rfl).trans (by rw [rB, pk_vb])
  | 1, _ => (byte_eq (s1 := nI (8 * 1)) (s2 := ((8 : Int32) * nI 1) &&& 31) 8 (by omega) rfl rfl).trans (by rw [rB, pk_vb])
  | 2, _ => (byte_eq (s1 := nI (8 * 2)) (s2 := ((8 : Int32) * nI 2) &&& 31) 16 (by omega) rfl rfl).trans (by rw [rB, pk_vb])
  | 3, _ => (byte_eq (s1 := nI (8 * 3)) (s2 := ((8 : Int32) * nI 3) &&& 31) 24 (by omega) rfl rfl).trans (by rw [rB, pk_vb])
  | n + 4, h => by omega
theorem l_135 {p : Int32} {t0 : Nat} {f0 : Nat → Int32} {X K : ST → Prop} (ht : t0 + 4 ≤ 200) (hX : ∀ s, s.1 7 = nI (t0 + 4) → s.2.1 27 = app4 f0 t0 (cB p) → X s) : ∀ (i : Nat) (s : ST), i ≤ 4 → s.1 7 = nI (t0 + (4 - i)) → s.2.1 27 = (fun j => if t0 ≤ j ∧ j < t0 + (4 - i) then cB p (t0 + 3 - j) else f0 j) → w_135_L2 (i + 1) p (nI (8 * i) + (-8)) s X K := by
  intro i
  induction i with
  | zero =>
    intro s _ h1 h2
    rw [w_135_L2]
    refine br_t (by decide) (hX s h1 h2)
  | succ i ih =>
    intro s hi h1 h2
    rw [w_135_L2]
    have e8 : nI (8 * (i + 1)) + (-8 : Int32) = nI (8 * i) := by
      have z : nI (8 * (i + 1)) = nI (8 * i) + nI 8 := by rw [nI_add]; rfl
      rw [z]
      have y : (nI 8 : Int32) = 8 := rfl
      rw [y, Int32.add_assoc]
      have w : (8 : Int32) + -8 = 0 := by decide
      rw [w, Int32.add_zero]
    rw [e8]
    refine br_f (nI_pos (by omega)) ?_
    have e200 : (200 : Int32) = nI 200 := rfl
    rw [h1, e200, nI_leI (by omega) (by omega)]
    refine br_f (by omega) ?_
    refine ⟨pin_nI (by omega) (by omega), ?_⟩
    rw [nI_clamp (by omega), nI_1]
    refine ih _ (by omega) ?_ ?_
    · show nI (t0 + (4 - (i + 1)) + 1) = nI (t0 + (4 - i))
      congr 1; omega
    · show upd (s.2.1 27) (t0 + (4 - (i + 1))) (cB p i) = _
      funext j
      rw [upd_ap, h2]
      dsimp only
      by_cases e : j = t0 + (4 - (i + 1))
      · subst e
        rw [if_pos rfl, if_pos (by omega)]
        congr 1; omega
      · rw [if_neg e]
        by_cases d : t0 ≤ j ∧ j < t0 + (4 - (i + 1))
        · rw [if_pos d, if_pos (by omega)]
        · rw [if_neg d, if_neg (by omega)]
theorem sp_135 {p : Int32} {t0 : Nat} {s : ST} {K : ST → Prop} (h7 : s.1 7 = nI t0) (ht : t0 + 4 ≤ 200) (k : ∀ s1, Fr fs44 s s1 → s1.1 7 = nI (t0 + 4) → s1.2.1 27 = app4 (s.2.1 27) t0 (cB p) → K s1) : w_135 p s K := by
  have h : w_135 p s (fun s1 => s1.1 7 = nI (t0 + 4) ∧ s1.2.1 27 = app4 (s.2.1 27) t0 (cB p)) := by
    unfold w_135
    refine ⟨5, l_135 (t0 := t0) (f0 := s.2.1 27) ht (fun s1 h1 h2 => ⟨h1, h2⟩) 4 s (by omega) ?_ ?_⟩
    · rw [h7]; rfl
    · funext j; rw [if_neg (by omega)]
  exact fm_w_135 p s (fr_rfl _ _) h (fun s1 f h => k s1 f h.1 h.2)
theorem l_200 {p : Int32} {t0 : Nat} {f0 : Nat → Int32} {X K : ST → Prop} (ht : t0 + 4 ≤ 200) (hX : ∀ s, s.1 5525 = nI (t0 + 4) → s.2.1 75 = app4 f0 t0 (rB p) → X s) : ∀ (i : Nat) (s : ST), i ≤ 4 → s.1 5525 = nI (t0 + (4 - i)) → s.2.1 75 = (fun j => if t0 ≤ j ∧ j < t0 + (4 - i) then rB p (t0 + 3 - j) else f0 j) → w_200_L2 (i + 1) p (nI i + (-1)) s X K := by
  intro i
  induction i with
  | zero =>
    intro s _ h1 h2
    rw [w_200_L2]
    refine br_t (by decide) (hX s h1 h2)
  | succ i ih =>
    intro s hi h1 h2
    rw [w_200_L2, pk_m1]
    refine br_f (nI_pos (by omega)) ?_
    rw [h1]
    refine ⟨pin_nI (by omega) (by omega), ?_⟩
    rw [nI_clamp (by omega), nI_1]
    refine ih _ (by omega) ?_ ?_
    · show nI (t0 + (4 - (i + 1)) + 1) = nI (t0 + (4 - i))
      congr 1; omega
    · show upd (s.2.1 75) (t0 + (4 - (i + 1))) (rB p i) = _
      funext j
      rw [upd_ap, h2]
      dsimp only
      by_cases e : j = t0 + (4 - (i + 1))
      · subst e
        rw [if_pos rfl, if_pos (by omega)]
        congr 1; omega
      · rw [if_neg e]
        by_cases d : t0 ≤ j ∧ j < t0 + (4 - (i + 1))
        · rw [if_pos d, if_pos (by omega)]
        · rw [if_neg d, if_neg (by omega)]
theorem sp_200 {p : Int32} {t0 : Nat} {s : ST} {K : ST → Prop} (h7 : s.1 5525 = nI t0) (ht : t0 + 4 ≤ 200) (k : ∀ s1, Fr fs73 s s1 → s1.1 5525 = nI (t0 + 4) → s1.2.1 75 = app4 (s.2.1 75) t0 (rB p) → K s1) : w_200 p s K := by
  have h : w_200 p s (fun s1 => s1.1 5525 = nI (t0 + 4) ∧ s1.2.1 75 = app4 (s.2.1 75) t0 (rB p)) := by
    unfold w_200
    refine ⟨5, l_200 (t0 := t0) (f0 := s.2.1 75) ht (fun s1 h1 h2 => ⟨h1, h2⟩) 4 s (by omega) ?_ ?_⟩
    · rw [h7]; rfl
    · funext j; rw [if_neg (by omega)]
  exact fm_w_200 p s (fr_rfl _ _) h (fun s1 f h => k s1 f h.1 h.2)
abbrev fsF : FS := ([7, 5525], [27, 75], [], false, false)
theorem Jroo_F {t : Nat} {s s1 : ST} (f : Fr fsF s s1) (h : Jroo t s) : Jroo t s1 := by
  unfold Jroo at h ⊢
  rw [f.2.2.2.2 rfl]
  exact h
theorem J_tape {t : Nat} {s s1 : ST} (f : Fr fsF s s1) (h : Jnow s ∧ Jhou s ∧ Jrow s ∧ Jord s ∧ Jmen s ∧ Jthi s ∧ Jjud s ∧ Jask s ∧ Jrea s ∧ Jsca s ∧ Jvie s ∧ Jrul s ∧ Jrnd s ∧ Jroo t s) (h2 : Jtap s1) : J t s1 := by
  obtain ⟨hnow, hhou, hrow, hord, hmen, hthi, hjud, hask, hrea, hsca, hvie, hrul, hrnd, hroo⟩ := h
  exact ⟨Jnow_G f hnow, Jhou_G f hhou, Jrow_G f hrow, Jord_G f hord, Jmen_G f hmen, h2, Jthi_G f hthi, Jjud_G f hjud, Jask_G f hask, Jrea_G f hrea, Jsca_G f hsca, Jvie_G f hvie, Jrul_G f hrul, Jrnd_G f hrnd, Jroo_F f hroo⟩
theorem sp_6 {t : Nat} {s : ST} {X F : ST → Prop} (a1 : Int32) (a2 : Int32) (a3 : Int32) (a4 : Int32) (a5 : Int32) (h : J t s) (hX : ∀ s1, J (t + 1) s1 → X s1) : st_6 a1 a2 a3 a4 a5 s X F := by
  obtain ⟨hnow, hhou, hrow, hord, hmen, htap, hthi, hjud, hask, hrea, hsca, hvie, hrul, hrnd, hroo⟩ := h
  have hT : s.1 5525 = nI (s.1 5525).toNatClampNeg := nI_nat htap.2.1
  have hT2 : (s.1 5525).toNatClampNeg ≤ 200 := by rw [cl_e]; have := htap.2.2.1; omega
  generalize (s.1 5525).toNatClampNeg = t0 at hT hT2
  have e20 : nI t0 + (20 : Int32) = nI (t0 + 20) := nI_add t0 20
  have le20 : (nI (t0 + 20) ≤ (200 : Int32)) ↔ t0 + 20 ≤ 200 := nI_leI (b := 200) (by omega) (by omega)
  unfold st_6 w_134
  rw [htap.1, hT, e20, le20]
  by_cases c : t0 + 20 ≤ 200
  · refine br_t c ?_
    refine sp_135 (t0 := t0 + 0) (by rw [htap.1, hT]; rfl) (by omega) (fun z1 g1 p1 c1 => ?_)
    refine sp_135 (t0 := t0 + 4) p1 (by omega) (fun z2 g2 p2 c2 => ?_)
    refine sp_135 (t0 := t0 + 8) p2 (by omega) (fun z3 g3 p3 c3 => ?_)
    refine sp_135 (t0 := t0 + 12) p3 (by omega) (fun z4 g4 p4 c4 => ?_)
    refine sp_135 (t0 := t0 + 16) p4 (by omega) (fun z5 g5 p5 c5 => ?_)
    have hTz : z5.1 5525 = nI t0 := by rw [g5.1 5525 rfl, g4.1 5525 rfl, g3.1 5525 rfl, g2.1 5525 rfl, g1.1 5525 rfl]; exact hT
    simp only [w_201, hTz, e20, le20]
    refine br_t c ?_
    refine sp_200 (t0 := t0 + 0) hTz (by omega) (fun y1 f1 q1 r1 => ?_)
    refine sp_200 (t0 := t0 + 4) q1 (by omega) (fun y2 f2 q2 r2 => ?_)
    refine sp_200 (t0 := t0 + 8) q2 (by omega) (fun y3 f3 q3 r3 => ?_)
    refine sp_200 (t0 := t0 + 12) q3 (by omega) (fun y4 f4 q4 r4 => ?_)
    refine sp_200 (t0 := t0 + 16) q4 (by omega) (fun y5 f5 q5 r5 => ?_)
    have q7 : y5.1 7 = nI (t0 + 20) := by rw [f5.1 7 rfl, f4.1 7 rfl, f3.1 7 rfl, f2.1 7 rfl, f1.1 7 rfl]; exact p5
    rw [p5, q5]
    refine ⟨fun _ => hX _ ?_, fun z => absurd rfl z⟩
    have hfr : Fr fsF s y5 := fr_tr (F := fs73) rfl (fr_tr (F := fs73) rfl (fr_tr (F := fs73) rfl (fr_tr (F := fs73) rfl (fr_tr (F := fs73) rfl (fr_tr (F := fs44) rfl (fr_tr (F := fs44) rfl (fr_tr (F := fs44) rfl (fr_tr (F := fs44) rfl (fr_tr (F := fs44) rfl (fr_rfl fsF s) g1) g2) g3) g4) g5) f1) f2) f3) f4) f5
    have ec : y5.2.1 27 = z5.2.1 27 := by rw [f5.2.1 27 rfl, f4.2.1 27 rfl, f3.2.1 27 rfl, f2.2.1 27 rfl, f1.2.1 27 rfl]
    have er : z5.2.1 75 = s.2.1 75 := by rw [g5.2.1 75 rfl, g4.2.1 75 rfl, g3.2.1 75 rfl, g2.2.1 75 rfl, g1.2.1 75 rfl]
    refine J_tape hfr ⟨hnow, hhou, hrow, hord, hmen, hthi, hjud, hask, hrea, hsca, hvie, hrul, hrnd, Jroo_s hroo⟩ ?_
    refine ⟨by rw [q7, q5], by rw [q5, nI_toInt (by omega)]; omega, by rw [q5, nI_toInt (by omega)]; omega, ?_⟩
    rw [ec, c5, c4, c3, c2, c1, r5, r4, r3, r2, r1, er]
    exact app4_eq (app4_eq (app4_eq (app4_eq (app4_eq htap.2.2.2 (cr_B a1)) (cr_B a2)) (cr_B a3)) (cr_B a4)) (cr_B a5)
  · refine br_f c ?_
    simp only [w_201, hT, e20, le20]
    refine br_f c ?_
    exact ⟨fun _ => (hX _ ⟨hnow, hhou, hrow, hord, hmen, htap, hthi, hjud, hask, hrea, hsca, hvie, hrul, hrnd, Jroo_s hroo⟩), fun z => absurd trivial z⟩
