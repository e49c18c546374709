/-! ===== calls that only ask: known, holds, asked, and mend; printed by wip/whole/genq.py ===== -/
abbrev fsQ : FS := ([800, 801, 3502, 3503, 3504, 3505, 3506, 3710, 3711, 5007, 5008, 5009, 5520, 5526, 5527, 5528, 5529, 5530, 5531, 5532, 5533, 5557, 5558, 5571, 5572, 5573, 5574], [9, 10, 11, 12, 13, 14, 15, 21, 33, 34, 36, 38, 39, 40, 41, 42, 43, 44, 45, 51, 52, 53, 54, 72, 73, 74, 76, 77, 78, 79, 80, 81, 82, 94, 95, 96, 97, 98, 99, 100, 101, 102, 103, 104, 105, 106, 109, 110], [17, 18, 92, 93, 107], false, false)
theorem Jroo_Q {t : Nat} {s s1 : ST} (f : Fr fsQ s s1) (h : Jroo t s) : Jroo t s1 := by
  unfold Jroo at h ⊢
  rw [f.2.2.2.2 rfl]
  exact h
theorem J_Q {t : Nat} {s s1 : ST} (f : Fr fsQ s s1) (h : J t s) (hv : Jvie s1) : J (t + 1) s1 := by
  obtain ⟨hnow, hhou, hrow, hord, hmen, htap, hthi, hjud, hask, hrea, hsca, hvie, hrul, hrnd, hroo⟩ := h
  exact ⟨Jnow_G f hnow, Jhou_G f hhou, Jrow_G f hrow, Jord_G f hord, Jmen_G f hmen, Jtap_G f htap, Jthi_G f hthi, Jjud_G f hjud, Jask_G f hask, Jrea_G f hrea, Jsca_G f hsca, hv, Jrul_G f hrul, Jrnd_G f hrnd, Jroo_s (Jroo_Q f hroo)⟩
theorem J_Bk {t : Nat} {s : ST} (h : J t s) : Bk s := by
  obtain ⟨hnow, hhou, hrow, hord, hmen, htap, hthi, hjud, hask, hrea, hsca, hvie, hrul, hrnd, hroo⟩ := h
  exact ⟨hnow, hhou, hrow, hord, hmen⟩
theorem J_vie {t : Nat} {s : ST} (h : J t s) : Jvie s := by
  obtain ⟨hnow, hhou, hrow, hord, hmen, htap, hthi, hjud, hask, hrea, hsca, hvie, hrul, hrnd, hroo⟩ := h
  exact hvie
theorem J_s {t : Nat} {s : ST} (h : J t s) : J (t + 1) s := by
  obtain ⟨hnow, hhou, hrow, hord, hmen, htap, hthi, hjud, hask, hrea, hsca, hvie, hrul, hrnd, hroo⟩ := h
  exact ⟨hnow, hhou, hrow, hord, hmen, htap, hthi, hjud, hask, hrea, hsca, hvie, hrul, hrnd, Jroo_s hroo⟩
/-- is a number that of a row that is known -/
def kn (D : ST) (t p : Int32) : Prop := 0 ≤ p.toInt ∧ p.toInt < (D.1 5502).toInt ∧ kp D t p.toNatClampNeg = true
theorem kn_mem {D : ST} (h : Bk D) {t p : Int32} (hk : kn D t p) : ∃ k, ∃ hl : k < (kL D t).length, p = nI (kL D t)[k] := by
  obtain ⟨h1, h2, h3⟩ := hk
  have hm : p.toNatClampNeg ∈ kL D t := kLn_mem.mpr ⟨by show p.toInt.toNat < (D.1 5502).toInt.toNat; omega, h3⟩
  obtain ⟨k, hl, e⟩ := List.getElem_of_mem hm
  exact ⟨k, hl, by rw [e]; exact nI_nat h1⟩
theorem w118v {D s : ST} {t p : Int32} {K : Int32 → ST → Prop} (h : Bk D) (v : VW D t s) (k1 : kn D t p → K 1 s) (k0 : ¬ kn D t p → K 0 s) : w_118 p s K := by
  have e150 : (150 : Int32).toInt = 150 := rfl
  have hR := (bkR h).2.2
  have o : ob_118 p s := by
    intro a b
    rw [i_lt, l_0] at a
    rw [i_le] at b
    exact pin_of (by omega) (by omega)
  rw [e_118 _ _ o]
  unfold v_118
  by_cases a : p < 0
  · rw [if_pos a]
    rw [i_lt, l_0] at a
    exact k0 (fun z => by have := z.1; omega)
  rw [if_neg a]
  rw [i_lt, l_0] at a
  by_cases b : (150 : Int32) ≤ p
  · rw [if_pos b]
    rw [i_le] at b
    refine k0 (fun z => ?_)
    have := z.2.1
    have := h.2.2.1.2.2.1
    omega
  rw [if_neg b]
  rw [i_le] at b
  by_cases c : p.toNatClampNeg < nR D
  · rw [v.2.1.2.2.2 _ c]
    by_cases d : smI D t p.toNatClampNeg ≤ 0
    · rw [if_pos d]
      exact k0 (fun z => (kp_le h c).mp d z.2.2)
    · rw [if_neg d]
      refine k1 ⟨by omega, ?_, Classical.byContradiction (fun z => d ((kp_le h c).mpr z))⟩
      have c2 : p.toInt.toNat < (D.1 5502).toInt.toNat := c
      omega
  · have c2 : ¬ p.toInt.toNat < (D.1 5502).toInt.toNat := c
    rw [v.2.2.1 _ (by show nR D ≤ p.toNatClampNeg; omega) (by rw [cl_e]; omega), if_pos (by decide)]
    exact k0 (fun z => by have := z.2.1; omega)
theorem place_ref {D s : ST} {t : Int32} (h : Bk D) (r : RW D t s) {i : Nat} (hi : i < nR D) : (s.2.1 74 i = -1) ↔ ¬ kp D t i = true := by
  have h150 := kL_150 h (t := t)
  constructor
  · intro e z
    obtain ⟨k, hl, ek⟩ := List.getElem_of_mem (kLn_mem.mpr ⟨hi, z⟩ : i ∈ kL D t)
    have e2 := r.2.2.2.1 k hl
    have ek : (kL D t)[k] = i := ek
    have hl : k < (kL D t).length := hl
    rw [ek, e, i_eq, l_m1, nI_toInt (by omega)] at e2
    omega
  · intro z
    exact r.2.2.2.2 i hi (fun y => z (kLn_mem.mp y).2)
theorem sp_4 {t : Nat} {s : ST} {X F : ST → Prop} (a1 : Int32) (a2 : Int32) (a3 : Int32) (h : J t s) (hX : ∀ s1, J (t + 1) s1 → X s1) : st_4 a1 a2 a3 s X F := by
  obtain ⟨hnow, hhou, hrow, hord, hmen, htap, hthi, hjud, hask, hrea, hsca, hvie, hrul, hrnd, hroo⟩ := h
  have hJ : J t s := ⟨hnow, hhou, hrow, hord, hmen, htap, hthi, hjud, hask, hrea, hsca, hvie, hrul, hrnd, hroo⟩
  have hB := J_Bk hJ
  unfold st_4 w_132
  simp only [e_182, t_182, e_181, t_181, Int32.reduceToInt]
  by_cases c : 0 ≤ a2.toInt ∧ a2.toInt ≤ 3999
  · refine br_f (fun z => z c) ?_
    by_cases d : 0 ≤ a3.toInt ∧ a3.toInt ≤ 1
    · refine br_t (fun z => z d) ?_
      refine mp_111 hB (fr_rfl _ _) hvie (fun s1 f1 vw jv => ?_)
      have fS : Fr fsS s s1 := fr_weak rfl f1
      have e5502 : s1.1 5502 = s.1 5502 := f1.1 5502 rfl
      refine w118v hB vw (fun kk => ?_) (fun nk => ?_)
      · obtain ⟨k, hl, rfl⟩ := kn_mem hB kk
        obtain ⟨hxR, hxk⟩ := kL_lt hB hl
        have h150 := kL_150 hB (t := a2)
        have hR := (bkR hB).2.2
        have hx : (kL s a2)[k] < 150 := by omega
        have e9 : s1.2.1 9 (kL s a2)[k] = smI s a2 (kL s a2)[k] := vw.2.1.2.2.2 _ hxR
        have ng : ¬ s1.2.1 9 (kL s a2)[k] ≤ 0 := by rw [e9]; exact fun z => (kp_le hB hxR).mp z hxk
        have fin : ∀ y1 : Int32, y1 = (if a3 = 0 then smI s a2 (kL s a2)[k] else nI k) → w_198 (nI (kL s a2)[k]) a2 a3 s1 (fun r4 s3 => (y1 = r4 → X s3) ∧ (¬ y1 = r4 → F s3)) := by
          intro y1 hy1
          unfold w_198
          simp only [e_190, t_190, e_187, t_187, e_186, t_186, Int32.reduceToInt, e5502]
          refine br_f (fun z => z ⟨kk.1, kk.2.1⟩) ?_
          refine br_f (fun z => z c) ?_
          refine br_t (fun z => z d) ?_
          refine mp_197 hB fS (fun s2 f2 rw2 => ?_)
          rw [nI_clamp (by omega)]
          have pl := rw2.2.2.2.1 k hl
          have pin1 : pin (nI (kL s a2)[k]) 150 = true := pin_nI hx (by omega)
          have jj : X s2 := hX _ (J_Q (fr_tr (F := fq197) rfl (fr_weak rfl f1) f2) hJ (Jvie_G f2 jv))
          rw [pl, rw2.2.2.1 _ hxR]
          refine ⟨pin1, br_t (fun z => by rw [i_eq, l_m1, nI_toInt (by omega)] at z; omega) ?_⟩
          by_cases e : a3 = 0
          · rw [if_pos e] at hy1
            exact br_f (fun z => z e) ⟨pin1, fun _ => jj, fun z => absurd hy1 z⟩
          · rw [if_neg e] at hy1
            exact br_t e ⟨pin1, fun _ => jj, fun z => absurd hy1 z⟩
        refine br_t (by decide) ?_
        by_cases e : a3 = 0
        · refine br_f (fun z => z e) ?_
          rw [w119 hx, e9]
          exact fin _ (by rw [if_pos e])
        · refine br_t e ?_
          have e120 : w_120 (nI (kL s a2)[k]) s1 = fun K => w_120 (nI (kL s a2)[k]) s1 K := rfl
          rw [e_120 _ _ (fun _ _ => ⟨pin_nI hx (by omega), fun _ => pin_nI hx (by omega)⟩)]
          unfold v_120
          rw [if_neg (nI_pos (by omega)), if_neg (n150 hx), nI_clamp (by omega), if_neg ng, vw.2.2.2.1 k hl]
          exact fin _ (by rw [if_neg e])
      · refine br_f (fun z => z rfl) ?_
        unfold w_198
        simp only [e_190, t_190, e_187, t_187, e_186, t_186, Int32.reduceToInt, e5502]
        by_cases e : 0 ≤ a1.toInt ∧ a1.toInt < (s.1 5502).toInt
        · refine br_f (fun z => z e) (br_f (fun z => z c) (br_t (fun z => z d) ?_))
          refine mp_197 hB fS (fun s2 f2 rw2 => ?_)
          have jj : X s2 := hX _ (J_Q (fr_tr (F := fq197) rfl (fr_weak rfl f1) f2) hJ (Jvie_G f2 jv))
          have hlt : a1.toNatClampNeg < nR s := by show a1.toInt.toNat < (s.1 5502).toInt.toNat; omega
          have hR := hrow.2.2.1
          refine ⟨pin_of e.1 (by omega), br_f (fun z => z ((place_ref hB rw2 hlt).mpr (fun y => nk ⟨e.1, e.2, y⟩))) ?_⟩
          exact br_t (by trivial) jj
        · exact br_t e (br_t (by trivial) (hX _ (J_Q (fr_weak rfl f1) hJ jv)))
    · refine br_f (fun z => z d) ?_
      unfold w_198
      simp only [e_190, t_190, e_187, t_187, e_186, t_186, Int32.reduceToInt]
      have fin : X s := hX _ (J_s hJ)
      by_cases e : 0 ≤ a1.toInt ∧ a1.toInt < (s.1 5502).toInt
      · exact br_f (fun z => z e) (br_f (fun z => z c) (br_f (fun z => z d) (br_t (by trivial) fin)))
      · exact br_t e (br_t (by trivial) fin)
  · refine br_t c ?_
    unfold w_198
    simp only [e_190, t_190, e_187, t_187, e_186, t_186, Int32.reduceToInt]
    have fin : X s := hX _ (J_s hJ)
    by_cases e : 0 ≤ a1.toInt ∧ a1.toInt < (s.1 5502).toInt
    · exact br_f (fun z => z e) (br_t c (br_t (by trivial) fin))
    · exact br_t e (br_t (by trivial) fin)
theorem sp_26 {t : Nat} {s : ST} {X F : ST → Prop} (a1 : Int32) (h : J t s) (hX : ∀ s1, J (t + 1) s1 → X s1) : st_26 a1 s X F := by
  obtain ⟨hnow, hhou, hrow, hord, hmen, htap, hthi, hjud, hask, hrea, hsca, hvie, hrul, hrnd, hroo⟩ := h
  have hJ : J t s := ⟨hnow, hhou, hrow, hord, hmen, htap, hthi, hjud, hask, hrea, hsca, hvie, hrul, hrnd, hroo⟩
  have hB := J_Bk hJ
  have t1 : ∀ p : Int32, (v_171 p s = 0) ↔ ¬ (0 ≤ p.toInt ∧ p.toInt < (s.1 5578).toInt) := by
    intro p
    have h := t_171 (p := p) (s := s) (by rw [hask.1]; exact hask.2.1) (by rw [hask.1]; exact hask.2.2.1)
    rw [hask.1] at h
    exact h
  unfold st_26 w_170
  simp only [e_171, t1]
  by_cases c : 0 ≤ a1.toInt ∧ a1.toInt < (s.1 5578).toInt
  · obtain ⟨i, hi, rfl⟩ := of_rng (n := 60) c.1 (by have := hask.2.2.1; omega)
    have ci := c
    rw [nI_toInt (by omega)] at ci
    obtain ⟨h1, h2, h3, h4, h5, h6, h7⟩ := hask.2.2.2 i (by show i < (s.1 5578).toInt.toNat; omega)
    have hp : pin (nI i) 60 = true := pin_nI hi (by omega)
    refine br_t (fun z => z c) ⟨hp, ?_⟩
    rw [nI_clamp (by omega), h3]
    by_cases d : s.2.1 114 i = -1
    · refine br_f (fun z => z d) ⟨hp, ?_⟩
      rw [h2, hnow.1]
      have fin : ∀ y : Int32, y = (if s.1 5500 ≤ s.2.1 113 i then 0 else 1) → w_273 (nI i) s (fun r4 s3 => (y = r4 → X s3) ∧ (¬ y = r4 → F s3)) := by
        intro y hy
        unfold w_273
        simp only [e_271, t_271]
        refine br_t (fun z => z c) ⟨hp, ?_⟩
        rw [nI_clamp (by omega)]
        refine br_f (fun z => z d) ⟨hp, ?_⟩
        by_cases e : s.1 5500 ≤ s.2.1 113 i
        · rw [if_pos e] at hy
          exact br_t e ⟨fun _ => hX _ (J_s hJ), fun z => absurd hy z⟩
        · rw [if_neg e] at hy
          exact br_f e ⟨fun _ => hX _ (J_s hJ), fun z => absurd hy z⟩
      by_cases e : s.1 5500 ≤ s.2.1 113 i
      · exact br_t e (fin _ (by rw [if_pos e]))
      · exact br_f e (fin _ (by rw [if_neg e]))
    · refine br_t d ?_
      rw [hnow.1]
      refine mp_111 hB (fr_rfl _ _) hvie (fun s1 f1 vw jv => ?_)
      have fS : Fr fsS s s1 := fr_weak rfl f1
      have hB1 := Bk_S fS hB
      have k30 : s1.2.1 30 = s.2.1 30 := f1.2.1 30 rfl
      have k32 : s1.2.1 32 = s.2.1 32 := f1.2.1 32 rfl
      rw [k30, h1]
      obtain ⟨r, hr, er⟩ := of_rng (x := s.2.1 112 i) (n := nR s) h4 (by show (s.2.1 112 i).toInt < (((s.1 5502).toInt.toNat : Nat) : Int); omega)
      rw [er]
      have hR := (bkR hB).2.2
      have jj : X s1 := hX _ (J_Q (fr_weak rfl f1) hJ jv)
      have fin : ∀ y : Int32, y = (if kp s (s.1 5500) r = true ∧ smI s (s.1 5500) r = s.2.1 114 i then 3 else 2) → w_273 (nI i) s1 (fun r4 s3 => (y = r4 → X s3) ∧ (¬ y = r4 → F s3)) := by
        intro y hy
        unfold w_273
        have e5578 : s1.1 5578 = s.1 5578 := f1.1 5578 rfl
        have e114 : s1.2.1 114 = s.2.1 114 := f1.2.1 114 rfl
        have e112 : s1.2.1 112 = s.2.1 112 := f1.2.1 112 rfl
        have e5500 : s1.1 5500 = s.1 5500 := f1.1 5500 rfl
        simp only [e_271, t_271, e5578]
        refine br_t (fun z => z c) ⟨hp, ?_⟩
        rw [nI_clamp (by omega), e114, e112, e5500, er]
        refine br_t d ⟨hp, ?_⟩
        refine mp_194 hB1 (by rw [nR_S fS]; exact hr) ?_
        rw [smI_S fS, e114]
        by_cases e : smI s (s.1 5500) r = 0
        · rw [if_neg (by unfold kp; simp [e])] at hy
          exact br_t e ⟨fun _ => jj, fun z => absurd hy z⟩
        · refine br_f e ⟨hp, ?_⟩
          by_cases g : smI s (s.1 5500) r = s.2.1 114 i
          · rw [if_pos ⟨by unfold kp; simp [e], g⟩] at hy
            exact br_t g ⟨fun _ => jj, fun z => absurd hy z⟩
          · rw [if_neg (fun z => g z.2)] at hy
            exact br_f g ⟨fun _ => jj, fun z => absurd hy z⟩
      refine ⟨hp, w118v hB vw (fun kk => ?_) (fun nk => ?_)⟩
      · refine br_f (by decide) ⟨hp, ?_⟩
        have kk2 := kk.2.2
        rw [nI_clamp (by omega)] at kk2
        rw [k30, h1, er, w119 (by omega), k32, h3, vw.2.1.2.2.2 r hr]
        refine ⟨hp, ?_⟩
        by_cases g : smI s (s.1 5500) r = s.2.1 114 i
        · exact br_f (fun z => z g) (fin _ (by rw [if_pos ⟨kk2, g⟩]))
        · exact br_t g (fin _ (by rw [if_neg (fun z => g z.2)]))
      · refine br_t rfl (fin _ ?_)
        rw [if_neg]
        intro z
        refine nk ⟨by rw [nI_toInt (by omega)]; omega, ?_, ?_⟩
        · rw [nI_toInt (by omega)]
          have hr2 : r < (s.1 5502).toInt.toNat := hr
          omega
        · rw [nI_clamp (by omega)]; exact z.1
  · refine br_f (fun z => z c) ?_
    unfold w_273
    simp only [e_271, t_271]
    exact br_f (fun z => z c) (br_t (by trivial) (hX _ (J_s hJ)))
theorem smF_top {s : ST} (h : Bk s) {t t2 : Int32} {i : Nat} (h1 : (s.1 5500).toInt ≤ t.toInt) (h2 : (s.1 5500).toInt ≤ t2.toInt) : ∀ k, k ≤ nM s → smF (s.2.1 69) (s.2.1 70) (s.2.1 71) (s.2.1 62 i) t i k = smF (s.2.1 69) (s.2.1 70) (s.2.1 71) (s.2.1 62 i) t2 i k
  | 0, _ => rfl
  | k + 1, hk => by
    have z := (h.2.2.2.2.2.2.2.1 k (by omega)).2.2.2.2.2.2.2.2
    rw [smF, smF, smF_top h h1 h2 k (by omega)]
    have e1 : s.2.1 71 k ≤ t := by rw [i_le]; omega
    have e2 : s.2.1 71 k ≤ t2 := by rw [i_le]; omega
    simp only [e1, e2]
theorem smI_top {s : ST} (h : Bk s) {t t2 : Int32} {i : Nat} (hi : i < nR s) (h1 : (s.1 5500).toInt ≤ t.toInt) (h2 : (s.1 5500).toInt ≤ t2.toInt) : smI s t i = smI s t2 i := by
  have z := (h.2.2.1.2.2.2 i hi).2
  unfold Rok at z
  unfold smI
  rw [if_pos (by rw [i_le]; omega), if_pos (by rw [i_le]; omega)]
  exact smF_top h h1 h2 _ (Nat.le_refl _)
theorem Jmen_add {s s1 : ST} {r : Nat} {y : Int32} (h : Jmen s) (hnow : Jnow s) (hrow : Jrow s) (hr : (r : Int) < (s.1 5502).toInt) (hy : 0 ≤ y.toInt ∧ y.toInt ≤ 1000000) (hl : (s.1 5503).toInt < 100) (e103 : s1.1 103 = s.1 5503 + 1) (e5503 : s1.1 5503 = s.1 5503 + 1) (e5502 : s1.1 5502 = s.1 5502) (e5500 : s1.1 5500 = s.1 5500) (e66 : s1.2.1 66 = s.2.1 66) (e5 : s1.2.1 5 = upd (s.2.1 5) (nM s) (nI r)) (e6 : s1.2.1 6 = upd (s.2.1 6) (nM s) y) (e7 : s1.2.1 7 = upd (s.2.1 7) (nM s) (s.1 5500)) (e69 : s1.2.1 69 = upd (s.2.1 69) (nM s) (nI r)) (e70 : s1.2.1 70 = upd (s.2.1 70) (nM s) y) (e71 : s1.2.1 71 = upd (s.2.1 71) (nM s) (s.1 5500)) : Jmen s1 := by
  obtain ⟨m1, m2, m3, m4, m5⟩ := h
  have ea : (s.1 5503 + 1).toInt = (s.1 5503).toInt + 1 := t_add1 m2 (by omega)
  have hR := hrow.2.2.1
  have hnM : nM s1 = nM s + 1 := by
    show (s1.1 5503).toInt.toNat = (s.1 5503).toInt.toNat + 1
    rw [e5503, ea]; omega
  refine ⟨by rw [e103, e5503], by rw [e5503, ea]; omega, by rw [e5503, ea]; omega, ?_, ?_⟩
  · intro k hk
    rw [hnM] at hk
    rw [e5, e6, e7, e69, e70, e71, e5502, e5500, e66]
    by_cases c : k = nM s
    · subst c
      simp only [pk_us]
      rw [nI_toInt (by omega), nI_clamp (by omega)]
      have z := (hrow.2.2.2 r (by show r < (s.1 5502).toInt.toNat; omega)).2
      unfold Rok at z
      exact ⟨trivial, trivial, trivial, by omega, hr, hy.1, hy.2, by omega, Int.le_refl _⟩
    · simp only [pk_un c]
      exact m4 k (by omega)
  · intro i k hik hk
    rw [hnM] at hk
    rw [e71]
    by_cases c : k = nM s
    · subst c
      rw [pk_us]
      by_cases d : i = nM s
      · subst d; rw [pk_us]; exact Int.le_refl _
      · rw [pk_un d]
        exact (m4 i (by omega)).2.2.2.2.2.2.2.2
    · rw [pk_un c, pk_un (by omega)]
      exact m5 i k hik (by omega)
abbrev fsM : FS := ([800, 801, 103, 5503], [9, 10, 11, 12, 13, 14, 15, 5, 6, 7, 69, 70, 71], [], false, false)
theorem Jroo_M {t : Nat} {s s1 : ST} (f : Fr fsM s s1) (h : Jroo t s) : Jroo t s1 := by
  unfold Jroo at h ⊢
  rw [f.2.2.2.2 rfl]
  exact h
theorem sp_3 {t : Nat} {s : ST} {X F : ST → Prop} (a1 : Int32) (a2 : Int32) (h : J t s) (hX : ∀ s1, J (t + 1) s1 → X s1) : st_3 a1 a2 s X F := by
  obtain ⟨hnow, hhou, hrow, hord, hmen, htap, hthi, hjud, hask, hrea, hsca, hvie, hrul, hrnd, hroo⟩ := h
  have hJ : J t s := ⟨hnow, hhou, hrow, hord, hmen, htap, hthi, hjud, hask, hrea, hsca, hvie, hrul, hrnd, hroo⟩
  have hB := J_Bk hJ
  have e100 : (100 : Int32).toInt = 100 := rfl
  unfold st_3 w_131
  simp only [e_2, t_2, e_181, t_181, Int32.reduceToInt, hrow.1, hmen.1]
  have rej : ∀ y : Int32, y = 0 → ∀ s1, Fr fqV s s1 → Jvie s1 → (¬ (0 ≤ a1.toInt ∧ a1.toInt < (s.1 5502).toInt) ∨ ¬ (0 ≤ a2.toInt ∧ a2.toInt ≤ 1000000) ∨ ¬ (s.1 5503).toInt < 100 ∨ ¬ kp s (s.1 5500) a1.toNatClampNeg = true) → w_195 a1 a2 s1 (fun r4 s3 => (y = r4 → X s3) ∧ (¬ y = r4 → F s3)) := by
    intro y hy s1 f1 jv hc
    subst hy
    have fin : X s1 := hX _ (J_Q (fr_weak rfl f1) hJ jv)
    have fS : Fr fsS s s1 := fr_weak rfl f1
    have e5502 : s1.1 5502 = s.1 5502 := f1.1 5502 rfl
    have e5503 : s1.1 5503 = s.1 5503 := f1.1 5503 rfl
    unfold w_195
    simp only [e_190, t_190, e_186, t_186, Int32.reduceToInt, e5502, e5503]
    by_cases c : 0 ≤ a1.toInt ∧ a1.toInt < (s.1 5502).toInt
    · refine br_f (fun z => z c) ?_
      by_cases d : 0 ≤ a2.toInt ∧ a2.toInt ≤ 1000000
      · refine br_f (fun z => z d) ?_
        by_cases e : s.1 5503 = 100
        · exact br_t e (br_t (by trivial) fin)
        · refine br_f e ?_
          rw [i_eq] at e
          have := hmen.2.2.1
          obtain ⟨r, hr, rfl⟩ := of_rng (n := 150) c.1 (by have := hrow.2.2.1; omega)
          rw [nI_toInt (by omega)] at c
          have hrR : r < nR s := by show r < (s.1 5502).toInt.toNat; omega
          refine mp_194 (Bk_S fS hB) (by rw [nR_S fS]; exact hrR) ?_
          rw [smI_S fS, nI_clamp (by omega)] at *
          have nk : ¬ kp s (s.1 5500) r = true := by
            rw [nI_toInt (by omega)] at hc
            rcases hc with h | h | h | h
            · exact absurd ⟨by omega, by omega⟩ h
            · exact absurd d h
            · omega
            · exact h
          have z0 : smI s 3999 r = 0 := by
            rw [smI_top hB hrR (t := 3999) (t2 := s.1 5500) hnow.2.2 (Int.le_refl _)]
            unfold kp at nk
            simp at nk
            exact nk
          rw [z0]
          exact br_f (fun z => z rfl) (br_t (by trivial) fin)
      · exact br_t d (br_t (by trivial) fin)
    · exact br_t c (br_t (by trivial) fin)
  by_cases c : 0 ≤ a1.toInt ∧ a1.toInt < (s.1 5502).toInt
  · refine br_f (fun z => z c) ?_
    by_cases d : 0 ≤ a2.toInt ∧ a2.toInt ≤ 1000000
    · refine br_f (fun z => z d) ?_
      by_cases e : s.1 5503 < 100
      · refine br_t e ?_
        rw [i_lt] at e
        rw [hnow.1]
        refine mp_111 hB (fr_rfl _ _) hvie (fun s1 f1 vw jv => ?_)
        refine w118v hB vw (fun kk => ?_) (fun nk => ?_)
        · refine br_t (by decide) ?_
          obtain ⟨r, hr, rfl⟩ := of_rng (n := 150) c.1 (by have := hrow.2.2.1; omega)
          have cr := c.2
          rw [nI_toInt (by omega)] at cr
          have hrR : r < nR s := by show r < (s.1 5502).toInt.toNat; omega
          have kk2 := kk.2.2
          rw [nI_clamp (by omega)] at kk2
          have fS : Fr fsS s s1 := fr_weak rfl f1
          have k103 : s1.1 103 = s.1 5503 := (f1.1 103 rfl).trans hmen.1
          have k100 : s1.1 100 = s.1 5500 := (f1.1 100 rfl).trans hnow.1
          have hp : pin (s.1 5503) 100 = true := pin_of hmen.2.1 (by omega)
          unfold w_11
          rw [k103, k100]
          refine br_f (by rw [i_le]; omega) ⟨hp, hp, hp, ?_⟩
          have fg : Fr fsM s (sA (sA (sA (sI s1 103 (s.1 5503 + 1)) 5 (upd (s1.2.1 5) (s.1 5503).toNatClampNeg (nI r))) 6 (upd (s1.2.1 6) (s.1 5503).toNatClampNeg a2)) 7 (upd (s1.2.1 7) (s.1 5503).toNatClampNeg (s.1 5500))) := fr_sA 7 (fr_sA 6 (fr_sA 5 (fr_sI 103 (fr_weak rfl f1))))
          generalize hs2 : (sA (sA (sA (sI s1 103 (s.1 5503 + 1)) 5 (upd (s1.2.1 5) (s.1 5503).toNatClampNeg (nI r))) 6 (upd (s1.2.1 6) (s.1 5503).toNatClampNeg a2)) 7 (upd (s1.2.1 7) (s.1 5503).toNatClampNeg (s.1 5500))) = s2 at fg
          have q5502 : s2.1 5502 = s.1 5502 := fg.1 5502 rfl
          have q5503 : s2.1 5503 = s.1 5503 := by rw [← hs2]; exact f1.1 5503 rfl
          have q103 : s2.1 103 = s.1 5503 + 1 := by rw [← hs2]; rfl
          have q5500 : s2.1 5500 = s.1 5500 := fg.1 5500 rfl
          have q5 : s2.2.1 5 = upd (s.2.1 5) (nM s) (nI r) := by rw [← hs2]; show upd (s1.2.1 5) _ _ = _; rw [f1.2.1 5 rfl]; rfl
          have q6 : s2.2.1 6 = upd (s.2.1 6) (nM s) a2 := by rw [← hs2]; show upd (s1.2.1 6) _ _ = _; rw [f1.2.1 6 rfl]; rfl
          have q7 : s2.2.1 7 = upd (s.2.1 7) (nM s) (s.1 5500) := by rw [← hs2]; show upd (s1.2.1 7) _ _ = _; rw [f1.2.1 7 rfl]; rfl
          have q69 : s2.2.1 69 = s.2.1 69 := by rw [← hs2]; exact f1.2.1 69 rfl
          have q70 : s2.2.1 70 = s.2.1 70 := by rw [← hs2]; exact f1.2.1 70 rfl
          have q71 : s2.2.1 71 = s.2.1 71 := by rw [← hs2]; exact f1.2.1 71 rfl
          have q66 : s2.2.1 66 = s.2.1 66 := fg.2.1 66 rfl
          have q62 : s2.2.1 62 = s.2.1 62 := fg.2.1 62 rfl
          have jv2 : Jvie s2 := by
            rw [← hs2]
            exact jv
          unfold w_195
          simp only [e_190, t_190, e_186, t_186, Int32.reduceToInt, q5502, q5503]
          refine br_f (fun z => z c) (br_f (fun z => z d) (br_f (by rw [i_eq]; omega) ?_))
          have hM := (bkM hB).2.2
          have hR := (bkR hB).2.2
          have sm2 : ∀ tt, smI s2 tt r = smI s tt r := by
            intro tt
            unfold smI nM
            rw [q66, q69, q70, q71, q62, q5503]
          have hnM2 : nM s2 = nM s := by unfold nM; rw [q5503]
          have r194 : ∀ K : Int32 → ST → Prop, K (smI s2 3999 r) s2 → w_194 (nI r) 3999 s2 K := by
            intro K hK
            unfold w_194
            rw [nI_clamp (by omega)]
            have pr : pin (nI r) 150 = true := pin_nI (by omega) (by omega)
            refine ⟨pr, ?_⟩
            unfold smI at hK
            by_cases y : s2.2.1 66 r ≤ 3999
            · rw [if_pos y] at hK
              refine br_t y ⟨pr, 101, ?_⟩
              exact l_194R (by rw [hnM2, q5503]; exact (bkM hB).1) (by omega) hK 101 0 (by omega) (by omega)
            · rw [if_neg y] at hK
              exact br_f y hK
          refine r194 _ ?_
          rw [sm2, smI_top hB hrR (t := 3999) (t2 := s.1 5500) hnow.2.2 (Int.le_refl _), q5503]
          have nz : ¬ smI s (s.1 5500) r = 0 := by
            unfold kp at kk2
            simp at kk2
            exact kk2
          refine br_t nz ⟨hp, hp, hp, ?_⟩
          refine br_t (by trivial) (hX _ ?_)
          have fh : Fr fsM s (sA (sA (sA (sI s2 5503 (s.1 5503 + 1)) 69 (upd (s2.2.1 69) (s.1 5503).toNatClampNeg (nI r))) 70 (upd (s2.2.1 70) (s.1 5503).toNatClampNeg a2)) 71 (upd (s2.2.1 71) (s.1 5503).toNatClampNeg (s2.1 5500))) := fr_sA 71 (fr_sA 70 (fr_sA 69 (fr_sI 5503 fg)))
          refine ⟨Jnow_G fh hnow, Jhou_G fh hhou, Jrow_G fh hrow, Jord_G fh hord, Jmen_add hmen hnow hrow cr d (by omega) q103 rfl q5502 q5500 q66 q5 q6 q7 (by show upd (s2.2.1 69) _ _ = _; rw [q69]; rfl) (by show upd (s2.2.1 70) _ _ = _; rw [q70]; rfl) (by show upd (s2.2.1 71) _ _ = _; rw [q71, q5500]; rfl), Jtap_G fh htap, Jthi_G fh hthi, Jjud_G fh hjud, Jask_G fh hask, Jrea_G fh hrea, Jsca_G fh hsca, jv2, Jrul_G fh hrul, Jrnd_G fh hrnd, Jroo_s (Jroo_M fh hroo)⟩
        · refine br_f (fun z => z rfl) ?_
          exact rej 0 rfl s1 f1 jv (Or.inr (Or.inr (Or.inr (fun z => nk ⟨c.1, c.2, z⟩))))
      · refine br_f e ?_
        rw [i_lt] at e
        exact rej 0 rfl s (fr_rfl _ _) hvie (Or.inr (Or.inr (Or.inl (by omega))))
    · exact br_t d (rej 0 rfl s (fr_rfl _ _) hvie (Or.inr (Or.inl d)))
  · exact br_t c (rej 0 rfl s (fr_rfl _ _) hvie (Or.inl c))
