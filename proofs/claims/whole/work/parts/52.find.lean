/-! ===== broken, findings, finding, found, ifFalse; printed by wip/whole/genfind.py ===== -/
theorem hl_S {D s : ST} (f : Fr fsS D s) : s.2.2.2 = D.2.2.2 := Prod.ext (f.2.2.2.1 rfl) (f.2.2.2.2 rfl)
theorem J_rul {t : Nat} {s : ST} (h : J t s) : Jrul s := by
  obtain ⟨hnow, hhou, hrow, hord, hmen, htap, hthi, hjud, hask, hrea, hsca, hvie, hrul, hrnd, hroo⟩ := h
  exact hrul
theorem J_sca {t : Nat} {s : ST} (h : J t s) : Jsca s := by
  obtain ⟨hnow, hhou, hrow, hord, hmen, htap, hthi, hjud, hask, hrea, hsca, hvie, hrul, hrnd, hroo⟩ := h
  exact hsca
theorem VW_W {D S s : ST} {t : Int32} (f1 : Fr fqW S s) (v : VW D t S) : VW D t s := by
  obtain ⟨q1, q2, q3, q4, q5⟩ := v
  refine ⟨by rw [f1.1 800 rfl]; exact q1, ⟨fr_tr (F := fqW) rfl q2.1 f1, by rw [f1.1 801 rfl]; exact q2.2.1, by rw [f1.2.1 11 rfl]; exact q2.2.2.1, by rw [f1.2.1 9 rfl]; exact q2.2.2.2⟩, by rw [f1.2.1 9 rfl]; exact q3, by rw [f1.2.1 10 rfl]; exact q4, ?_⟩
  intro kk hk
  rw [f1.2.1 12 rfl, f1.2.1 13 rfl]
  exact q5 kk hk
theorem hu_n {D : ST} (h : Bk D) {x : Nat} (hx : x < nR D) : (if D.2.1 64 x = -2 then -1 else D.2.1 64 x) = lvI D x (-1) := by
  have r := (h.2.2.1.2.2.2 x hx).2
  unfold Rok at r
  unfold lvI
  have e2 : (-2 : Int32).toInt = -2 := rfl
  rw [if_neg (by rw [i_eq]; omega)]
  by_cases c : D.2.1 64 x = -1
  · rw [if_pos c]; exact c
  · rw [if_neg c]
/-- a row that is broken and isn't cleared -/
def fnd (D : ST) (t u : Int32) (x : Nat) : Bool := !decide (¬ D.2.1 67 x = -1 ∧ D.2.1 67 x ≤ t) && !decide (brkT D t x u = -2)
theorem mp_56 {D s : ST} {t u : Int32} {i : Nat} {K : Int32 → ST → Prop} (h : Bk D) (hJ : Jrul D) (v : VW D t s) (hu : s.1 1600 = u) (hi : i < (kL D t).length) (k : ∀ s1, Fr fqW s s1 → K (if fnd D t u (kL D t)[i] = true then 1 else 0) s1) : w_56 (nI (kL D t)[i]) s K := by
  obtain ⟨hx, hxk⟩ := kL_lt h hi
  have hR := (bkR h).2.2
  have hx5 : (kL D t)[i] < 150 := by omega
  have f := v.2.1.1
  have nle : ¬ s.2.1 9 (kL D t)[i] ≤ 0 := by rw [v.2.1.2.2.2 _ hx]; exact fun z => (kp_le h hx).mp z hxk
  have b53 : ¬ (¬ D.2.1 67 (kL D t)[i] = -1 ∧ D.2.1 67 (kL D t)[i] ≤ t) → w_53 (nI (kL D t)[i]) s (fun r6 s5 => ((r6 = (-2 : Int32) → K (0 : Int32) s5) ∧ (¬ (r6 = (-2 : Int32)) → K (1 : Int32) s5))) := by
    intro nc
    refine mp_53 h hJ v (hl_S f) hu hi (fun s1 f1 => ?_)
    have k1 := k s1 f1
    unfold fnd at k1
    rw [decide_eq_false nc, Bool.not_false, Bool.true_and] at k1
    by_cases c : brkT D t (kL D t)[i] u = -2
    · rw [decide_eq_true c, if_neg (by decide)] at k1
      exact br_t c k1
    · rw [decide_eq_false c, if_pos (by decide)] at k1
      exact br_f c k1
  unfold w_56
  rw [cc10 h f hx]
  by_cases c : D.2.1 67 (kL D t)[i] = -1
  · refine br_t c ?_
    rw [w118 hx5, if_neg nle]
    exact br_f (by decide) (b53 (fun z => z.1 c))
  · refine br_f c ?_
    rw [v.1]
    by_cases d : t < D.2.1 67 (kL D t)[i]
    · refine br_t d ?_
      rw [w118 hx5, if_neg nle]
      exact br_f (by decide) (b53 (fun z => by have := z.2; rw [i_le] at this; rw [i_lt] at d; omega))
    · refine br_f d ?_
      rw [w118 hx5, if_neg nle]
      refine br_f (by decide) ?_
      have k1 := k s (fr_rfl _ _)
      unfold fnd at k1
      rw [decide_eq_true (show ¬ D.2.1 67 (kL D t)[i] = -1 ∧ D.2.1 67 (kL D t)[i] ≤ t from ⟨c, by rw [i_le]; rw [i_lt] at d; omega⟩), Bool.not_true, Bool.false_and, if_neg (by decide)] at k1
      exact k1
theorem mp_239 {D s : ST} {t u : Int32} {x : Nat} {K : Int32 → ST → Prop} (h : Bk D) (hJ : Jrul D) (f : Fr fsS D s) (r : RW D t s) (hu : (if D.2.1 64 x = s.1 5552 then -1 else D.2.1 64 x) = lvI D x u) (hx : x < nR D) (k : ∀ s1, Fr fqR s s1 → K (if fnd D t u x = true then 1 else 0) s1) : w_239 (nI x) t s K := by
  have hR := (bkR h).2.2
  have p := pin_nI (show x < 150 by omega) (show 150 < 2 ^ 31 by omega)
  have b236 : ¬ (¬ D.2.1 67 x = -1 ∧ D.2.1 67 x ≤ t) → w_236 (nI x) s (fun r6 s5 => ((r6 = (-2 : Int32) → K (0 : Int32) s5) ∧ (¬ (r6 = (-2 : Int32)) → K (1 : Int32) s5))) := by
    intro nc
    refine mp_236 h hJ f r hu hx (fun s1 f1 => ?_)
    have k1 := k s1 f1
    unfold fnd at k1
    rw [decide_eq_false nc, Bool.not_false, Bool.true_and] at k1
    by_cases c : brkT D t x u = -2
    · rw [decide_eq_true c, if_neg (by decide)] at k1
      exact br_t c k1
    · rw [decide_eq_false c, if_pos (by decide)] at k1
      exact br_f c k1
  unfold w_239
  rw [nI_clamp (by omega), f.2.1 67 rfl]
  refine ⟨p, ?_⟩
  by_cases c : D.2.1 67 x = -1
  · exact br_t c (b236 (fun z => z.1 c))
  · refine br_f c ⟨p, ?_⟩
    by_cases d : D.2.1 67 x ≤ t
    · refine br_t d ?_
      have k1 := k s (fr_rfl _ _)
      unfold fnd at k1
      rw [decide_eq_true (show ¬ D.2.1 67 x = -1 ∧ D.2.1 67 x ≤ t from ⟨c, d⟩), Bool.not_true, Bool.false_and, if_neg (by decide)] at k1
      exact k1
    · exact br_f d (b236 (fun z => d z.2))
def fcp (D : ST) (t : Int32) (p : Nat → Bool) (k : Nat) : Nat := (((kL D t).take k).filter p).length
theorem fcp_s {D : ST} {t : Int32} {p : Nat → Bool} {k : Nat} (hk : k < (kL D t).length) : fcp D t p (k + 1) = fcp D t p k + if p (kL D t)[k] = true then 1 else 0 := by
  unfold fcp
  rw [List.take_succ_eq_append_getElem hk, List.filter_append, List.length_append]
  by_cases c : p (kL D t)[k] = true
  · rw [if_pos c, List.filter_cons_of_pos c]; rfl
  · rw [if_neg c, List.filter_cons_of_neg c]; rfl
theorem l_57 {D S0 : ST} {t u : Int32} {X K : Int32 → ST → Prop} (h : Bk D) (hJ : Jrul D) (v0 : VW D t S0) (hu : S0.1 1600 = u) (hX : ∀ s, Fr fqW S0 s → X (nI (fcp D t (fnd D t u) (kL D t).length)) s) : ∀ n k s, k ≤ (kL D t).length → (kL D t).length - k < n → Fr fqW S0 s → w_57_L4 n (nI (fcp D t (fnd D t u) k)) (nI k) s X K := by
  have h150 := kL_150 h (t := t)
  intro n
  induction n with
  | zero => intro k s _ z; omega
  | succ n ih =>
    intro k s hk hn f
    have v := VW_W f v0
    rw [w_57_L4, v.2.1.2.1, nI_leI (by omega) (by omega)]
    by_cases c : (kL D t).length ≤ k
    · have : k = (kL D t).length := by omega
      subst this
      exact br_t c (hX s f)
    refine br_f c ?_
    have hkl : k < (kL D t).length := by omega
    rw [w_at h v.2.1 hkl]
    refine mp_56 (u := u) h hJ v (by rw [f.1 1600 rfl]; exact hu) hkl (fun s1 f1 => ?_)
    have nx := ih (k + 1) s1 (by omega) (by omega) (fr_tr (F := fqW) rfl f f1)
    rw [fcp_s hkl, ← nI_1 k] at nx
    by_cases d : fnd D t u (kL D t)[k] = true
    · rw [if_pos d] at nx ⊢
      rw [nI_1 (fcp D t (fnd D t u) k)]
      exact br_f (by decide) nx
    · rw [if_neg d] at nx ⊢
      exact br_t rfl nx
theorem l_240 {D S0 : ST} {t u : Int32} {X K : Int32 → ST → Prop} (h : Bk D) (hJ : Jrul D) (f0 : Fr fsS D S0) (r0 : RW D t S0) (hu : ∀ x, x < nR D → (if D.2.1 64 x = S0.1 5552 then -1 else D.2.1 64 x) = lvI D x u) (hX : ∀ s, Fr fqR S0 s → X (nI (fcp D t (fnd D t u) (kL D t).length)) s) : ∀ n k s, k ≤ (kL D t).length → (kL D t).length - k < n → Fr fqR S0 s → w_240_L7 n t (nI (fcp D t (fnd D t u) k)) (nI k) s X K := by
  have h150 := kL_150 h (t := t)
  intro n
  induction n with
  | zero => intro k s _ z; omega
  | succ n ih =>
    intro k s hk hn f
    have r := RW_fr f r0
    have fD : Fr fsS D s := fr_tr (F := fqR) rfl f0 f
    rw [w_240_L7, r.1, nI_leI (by omega) (by omega)]
    by_cases c : (kL D t).length ≤ k
    · have : k = (kL D t).length := by omega
      subst this
      exact br_t c (hX s f)
    refine br_f c ?_
    have hkl : k < (kL D t).length := by omega
    obtain ⟨r1, r2, r3, hx, r5, r6⟩ := rp h r hkl
    rw [nI_clamp (show k < 2 ^ 31 by omega), r1]
    refine ⟨r2, mp_239 h hJ fD r (by rw [f.1 5552 rfl]; exact hu _ hx) hx (fun s1 f1 => ?_)⟩
    have nx := ih (k + 1) s1 (by omega) (by omega) (fr_tr (F := fqR) rfl f f1)
    rw [fcp_s hkl, ← nI_1 k] at nx
    by_cases d : fnd D t u (kL D t)[k] = true
    · rw [if_pos d] at nx ⊢
      rw [nI_1 (fcp D t (fnd D t u) k)]
      exact br_f (by decide) nx
    · rw [if_neg d] at nx ⊢
      rw [Int32.add_zero]
      exact br_t rfl nx
theorem sp_8 {t : Nat} {s : ST} {X F : ST → Prop} (a1 : Int32) (a2 : Int32) (h : J t s) (hX : ∀ s1, J (t + 1) s1 → X s1) : st_8 a1 a2 s X F := by
  obtain ⟨hnow, hhou, hrow, hord, hmen, htap, hthi, hjud, hask, hrea, hsca, hvie, hrul, hrnd, hroo⟩ := h
  have hJ : J t s := ⟨hnow, hhou, hrow, hord, hmen, htap, hthi, hjud, hask, hrea, hsca, hvie, hrul, hrnd, hroo⟩
  have hB := J_Bk hJ
  have fin0 : X s := hX _ (J_s hJ)
  have rej : (¬ (0 ≤ a1.toInt ∧ a1.toInt < (s.1 5502).toInt) ∨ ¬ (0 ≤ a2.toInt ∧ a2.toInt ≤ 3999)) → ∀ s1, Fr fqV s s1 → Jvie s1 → w_237 a1 a2 s1 (fun r4 s3 => (-1 = r4 → X s3) ∧ (¬ -1 = r4 → F s3)) := by
    intro hc s1 f1 jv
    have fin : X s1 := hX _ (J_Q (fr_weak rfl f1) hJ jv)
    have e5502 : s1.1 5502 = s.1 5502 := f1.1 5502 rfl
    unfold w_237
    simp only [e_190, t_190, e_187, t_187, e5502]
    by_cases c : 0 ≤ a1.toInt ∧ a1.toInt < (s.1 5502).toInt
    · refine br_f (fun z => z c) (br_f (fun z => z ?_) (br_t (by trivial) fin))
      rcases hc with y | y
      · exact absurd c y
      · exact y
    · exact br_t c (br_t (by trivial) fin)
  unfold st_8 w_139
  simp only [e_182, t_182]
  by_cases d : 0 ≤ a2.toInt ∧ a2.toInt ≤ 3999
  · refine br_t (fun z => z d) ?_
    refine mp_111 hB (fr_rfl _ _) hvie (fun s1 f1 vw jv => ?_)
    have fS : Fr fsS s s1 := fr_weak rfl f1
    have e5502 : s1.1 5502 = s.1 5502 := f1.1 5502 rfl
    refine w118v hB vw (fun kk => ?_) (fun nk => ?_)
    · refine br_f (by decide) ?_
      obtain ⟨k, hl, rfl⟩ := kn_mem hB kk
      obtain ⟨hxR, hxk⟩ := kL_lt hB hl
      have hR := (bkR hB).2.2
      have u1 : s1.1 1600 = -1 := by rw [f1.1 1600 rfl]; exact hsca.1
      refine mp_53 hB hrul vw (hl_S fS) u1 hl (fun s2 f2 => ?_)
      have fS2 : Fr fsS s s2 := fr_tr (F := fqW) rfl fS f2
      have e5502b : s2.1 5502 = s.1 5502 := fS2.1 5502 rfl
      unfold w_237
      simp only [e_190, t_190, e_187, t_187, e5502b]
      refine br_f (fun z => z ⟨kk.1, kk.2.1⟩) (br_t (fun z => z d) ?_)
      refine mp_197 hB fS2 (fun s3 f3 rw3 => ?_)
      have fS3 : Fr fsS s s3 := fr_tr (F := fq197) rfl fS2 f3
      have u3 : s3.1 5552 = -2 := by rw [f3.1 5552 rfl, f2.1 5552 rfl, f1.1 5552 rfl]; exact hsca.2
      rw [nI_clamp (by omega)]
      have h150 := kL_150 hB (t := a2)
      refine ⟨pin_nI (by omega) (by omega), br_t (fun z => ((place_ref hB rw3 hxR).mp z) hxk) ?_⟩
      refine mp_236 hB hrul fS3 rw3 (by rw [u3]; exact hu_n hB hxR) hxR (fun s4 f4 => ?_)
      have fQ : Fr fsQ s s4 := fr_tr (F := fqR) rfl (fr_tr (F := fq197) rfl (fr_tr (F := fqW) rfl (fr_weak rfl f1) f2) f3) f4
      exact br_t (by trivial) (hX _ (J_Q fQ hJ (Jvie_G f4 (Jvie_G f3 (Jvie_G f2 jv)))))
    · refine br_t rfl ?_
      by_cases c : 0 ≤ a1.toInt ∧ a1.toInt < (s.1 5502).toInt
      · unfold w_237
        simp only [e_190, t_190, e_187, t_187, e5502]
        refine br_f (fun z => z c) (br_t (fun z => z d) ?_)
        refine mp_197 hB fS (fun s3 f3 rw3 => ?_)
        have hlt : a1.toNatClampNeg < nR s := by show a1.toInt.toNat < (s.1 5502).toInt.toNat; omega
        have hR := hrow.2.2.1
        have fQ : Fr fsQ s s3 := fr_tr (F := fq197) rfl (fr_weak rfl f1) f3
        refine ⟨pin_of c.1 (by omega), br_f (fun z => z ((place_ref hB rw3 hlt).mpr (fun y => nk ⟨c.1, c.2, y⟩))) ?_⟩
        exact br_t (by trivial) (hX _ (J_Q fQ hJ (Jvie_G f3 jv)))
      · exact rej (Or.inl c) s1 f1 jv
  · exact br_f (fun z => z d) (rej (Or.inr d) s (fr_rfl _ _) hvie)
theorem sp_10 {t : Nat} {s : ST} {X F : ST → Prop} (a1 : Int32) (h : J t s) (hX : ∀ s1, J (t + 1) s1 → X s1) : st_10 a1 s X F := by
  obtain ⟨hnow, hhou, hrow, hord, hmen, htap, hthi, hjud, hask, hrea, hsca, hvie, hrul, hrnd, hroo⟩ := h
  have hJ : J t s := ⟨hnow, hhou, hrow, hord, hmen, htap, hthi, hjud, hask, hrea, hsca, hvie, hrul, hrnd, hroo⟩
  have hB := J_Bk hJ
  unfold st_10 w_141
  simp only [e_182, t_182]
  by_cases d : 0 ≤ a1.toInt ∧ a1.toInt ≤ 3999
  · refine br_t (fun z => z d) ?_
    refine mp_111 hB (fr_rfl _ _) hvie (fun s1 f1 vw jv => ?_)
    have fS : Fr fsS s s1 := fr_weak rfl f1
    have h150 := kL_150 hB (t := a1)
    have u1 : s1.1 1600 = -1 := by rw [f1.1 1600 rfl]; exact hsca.1
    unfold w_57
    refine ⟨160, l_57 hB hrul vw u1 ?_ 160 0 s1 (by omega) (by omega) (fr_rfl _ _)⟩
    intro s2 f2
    have fS2 : Fr fsS s s2 := fr_tr (F := fqW) rfl fS f2
    unfold w_241 w_240
    simp only [e_187, t_187]
    refine br_f (fun z => z d) ?_
    refine mp_197 hB fS2 (fun s3 f3 rw3 => ?_)
    have fS3 : Fr fsS s s3 := fr_tr (F := fq197) rfl fS2 f3
    have u3 : s3.1 5552 = -2 := by rw [f3.1 5552 rfl, f2.1 5552 rfl, f1.1 5552 rfl]; exact hsca.2
    refine ⟨160, l_240 (u := -1) hB hrul fS3 rw3 (fun x hx => by rw [u3]; exact hu_n hB hx) ?_ 160 0 s3 (by omega) (by omega) (fr_rfl _ _)⟩
    intro s4 f4
    have fQ : Fr fsQ s s4 := fr_tr (F := fqR) rfl (fr_tr (F := fq197) rfl (fr_tr (F := fqW) rfl (fr_weak rfl f1) f2) f3) f4
    exact br_t (by trivial) (hX _ (J_Q fQ hJ (Jvie_G f4 (Jvie_G f3 (Jvie_G f2 jv)))))
  · refine br_f (fun z => z d) ?_
    unfold w_241
    simp only [e_187, t_187]
    exact br_t d (br_t (by trivial) (hX _ (J_s hJ)))
abbrev fsU : FS := ([800, 801, 3502, 3503, 3504, 3505, 3506, 3710, 3711, 5007, 5008, 5009, 5520, 5526, 5527, 5528, 5529, 5530, 5531, 5532, 5533, 5557, 5558, 5571, 5572, 5573, 5574, 1600, 5552], [9, 10, 11, 12, 13, 14, 15, 21, 33, 34, 36, 38, 39, 40, 41, 42, 43, 44, 45, 51, 52, 53, 54, 72, 73, 74, 76, 77, 78, 79, 80, 81, 82, 94, 95, 96, 97, 98, 99, 100, 101, 102, 103, 104, 105, 106, 109, 110], [17, 18, 92, 93, 107], false, false)
theorem Jroo_U {t : Nat} {s s1 : ST} (f : Fr fsU s s1) (h : Jroo t s) : Jroo t s1 := by
  unfold Jroo at h ⊢
  rw [f.2.2.2.2 rfl]
  exact h
theorem J_U {t : Nat} {s s1 : ST} (f : Fr fsU s s1) (h : J t s) (hv : Jvie s1) (hc : Jsca s1) : J (t + 1) s1 := by
  obtain ⟨hnow, hhou, hrow, hord, hmen, htap, hthi, hjud, hask, hrea, hsca, hvie, hrul, hrnd, hroo⟩ := h
  exact ⟨Jnow_G f hnow, Jhou_G f hhou, Jrow_G f hrow, Jord_G f hord, Jmen_G f hmen, Jtap_G f htap, Jthi_G f hthi, Jjud_G f hjud, Jask_G f hask, Jrea_G f hrea, hc, hv, Jrul_G f hrul, Jrnd_G f hrnd, Jroo_s (Jroo_U f hroo)⟩
theorem sp_27 {t : Nat} {s : ST} {X F : ST → Prop} (a1 : Int32) (h : J t s) (hX : ∀ s1, J (t + 1) s1 → X s1) : st_27 a1 s X F := by
  obtain ⟨hnow, hhou, hrow, hord, hmen, htap, hthi, hjud, hask, hrea, hsca, hvie, hrul, hrnd, hroo⟩ := h
  have hJ : J t s := ⟨hnow, hhou, hrow, hord, hmen, htap, hthi, hjud, hask, hrea, hsca, hvie, hrul, hrnd, hroo⟩
  have hB := J_Bk hJ
  unfold st_27 w_172
  simp only [e_183, t_183]
  by_cases d : 0 ≤ a1.toInt ∧ a1.toInt ≤ 15
  · refine br_t (fun z => z d) ?_
    rw [hnow.1]
    refine mp_111 hB (fr_rfl _ _) hvie (fun s1 f1 vw jv => ?_)
    have fS : Fr fsS s s1 := fr_weak rfl f1
    have h150 := kL_150 hB (t := s.1 5500)
    have v1 : VW s (s.1 5500) (sI s1 1600 a1) := by
      obtain ⟨q1, q2, q3, q4, q5⟩ := vw
      exact ⟨q1, ⟨fr_sI 1600 q2.1, q2.2⟩, q3, q4, q5⟩
    unfold w_57
    refine ⟨160, l_57 (u := a1) hB hrul v1 rfl ?_ 160 0 _ (by omega) (by omega) (fr_rfl _ _)⟩
    intro s2 f2
    have fU2 : Fr fsU s (sI s2 1600 (-1)) := fr_sI 1600 (fr_tr (F := fqW) rfl (fr_sI 1600 (fr_tr (F := fqV) rfl (fr_rfl fsU s) f1)) f2)
    have fS2 : Fr fsS s (sI s2 1600 (-1)) := fr_sI 1600 (fr_tr (F := fqW) rfl (fr_sI 1600 fS) f2)
    have jv2 : Jvie (sI s2 1600 (-1)) := Jvie_G (fr_sI (v := -1) 1600 (fr_tr (F := fqW) (G := ([1600], [21], [17, 18], false, false)) rfl (fr_sI (v := a1) 1600 (fr_rfl _ s1)) f2)) jv
    unfold w_243 w_240
    simp only [e_191, t_191]
    refine br_t (fun z => z (by omega)) ?_
    have k5500 : (sI s2 1600 (-1)).1 5500 = s.1 5500 := fS2.1 5500 rfl
    rw [k5500]
    refine mp_197 hB (fr_sI 5552 fS2) (fun s3 f3 rw3 => ?_)
    have fS3 : Fr fsS s s3 := fr_tr (F := fq197) rfl (fr_sI 5552 fS2) f3
    have u3 : s3.1 5552 = a1 := f3.1 5552 rfl
    refine ⟨160, l_240 (u := a1) hB hrul fS3 rw3 (fun x hx => by rw [u3]; rfl) ?_ 160 0 s3 (by omega) (by omega) (fr_rfl _ _)⟩
    intro s4 f4
    have fU4 : Fr fsU s (sI s4 5552 (-2)) := fr_sI 5552 (fr_tr (F := fqR) rfl (fr_tr (F := fq197) rfl (fr_sI 5552 fU2) f3) f4)
    have f34 : Fr ([5520, 5552], [72, 73, 74, 94], [92, 93], false, false) (sI s2 1600 (-1)) (sI s4 5552 (-2)) := fr_sI 5552 (fr_tr (F := fqR) rfl (fr_tr (F := fq197) rfl (fr_sI 5552 (fr_rfl _ _)) f3) f4)
    refine br_t (by trivial) (hX _ (J_U fU4 hJ (Jvie_G f34 jv2) ⟨?_, rfl⟩))
    exact f34.1 1600 rfl
  · refine br_f (fun z => z d) ?_
    unfold w_243
    simp only [e_191, t_191]
    exact br_f (fun z => z (by omega)) (br_t (by trivial) (hX _ (J_s hJ)))
