/-! ===== finding, found; printed by wip/whole/genfind2.py ===== -/
/-- the place is that of the wanted finding -/
def wnt (D : ST) (t u w : Int32) (k : Nat) : Prop := ∃ hk : k < (kL D t).length, fnd D t u (kL D t)[k] = true ∧ nI (fcp D t (fnd D t u) k) = w
theorem l_142 {D S0 : ST} {t u w : Int32} {X1 : ST → Prop} {X2 K : Int32 → ST → Prop} (h : Bk D) (hJ : Jrul D) (v0 : VW D t S0) (hu : S0.1 1600 = u) (h1 : ∀ s, Fr fqW S0 s → (∀ k, ¬ wnt D t u w k) → X1 s) (h2 : ∀ s k (hk : k < (kL D t).length), Fr fqW S0 s → wnt D t u w k → (∀ j, j < k → ¬ wnt D t u w j) → X2 (nI (kL D t)[k]) s) : ∀ n k s, k ≤ (kL D t).length → (kL D t).length - k < n → Fr fqW S0 s → (∀ j, j < k → ¬ wnt D t u w j) → w_142_L15 n w (nI (fcp D t (fnd D t u) k)) (nI k) s X1 X2 K := by
  have h150 := kL_150 h (t := t)
  intro n
  induction n with
  | zero => intro k s _ z; omega
  | succ n ih =>
    intro k s hk hn f hs
    have v := VW_W f v0
    rw [w_142_L15, v.2.1.2.1, nI_leI (by omega) (by omega)]
    by_cases c : (kL D t).length ≤ k
    · refine br_t c (h1 s f (fun j z => ?_))
      have hj : j < (kL D t).length := z.1
      exact hs j (by omega) z
    refine br_f c ?_
    have hkl : k < (kL D t).length := by omega
    rw [w_at h v.2.1 hkl]
    refine mp_56 (u := u) h hJ v (by rw [f.1 1600 rfl]; exact hu) hkl (fun s1 f1 => ?_)
    have f2 : Fr fqW S0 s1 := fr_tr (F := fqW) rfl f f1
    have nx : ¬ wnt D t u w k → w_142_L15 n w (nI (fcp D t (fnd D t u) (k + 1))) (nI (k + 1)) s1 X1 X2 K := by
      intro z
      refine ih (k + 1) s1 (by omega) (by omega) f2 (fun j hj => ?_)
      by_cases e : j = k
      · subst e; exact z
      · exact hs j (by omega)
    rw [fcp_s hkl, ← nI_1 k] at nx
    by_cases d : fnd D t u (kL D t)[k] = true
    · rw [if_pos d] at nx ⊢
      rw [nI_1 (fcp D t (fnd D t u) k)]
      refine br_f (by decide) ?_
      by_cases e : nI (fcp D t (fnd D t u) k) = w
      · exact br_f (fun z => z e) (h2 s1 k hkl f2 ⟨hkl, d, e⟩ hs)
      · exact br_t e (nx (fun z => e z.2.2))
    · rw [if_neg d] at nx ⊢
      exact br_t rfl (nx (fun z => d z.2.1))
theorem l_242 {D S0 : ST} {t u w : Int32} {X1 : ST → Prop} {X2 K : Int32 → ST → Prop} (h : Bk D) (hJ : Jrul D) (f0 : Fr fsS D S0) (r0 : RW D t S0) (hu : ∀ x, x < nR D → (if D.2.1 64 x = S0.1 5552 then -1 else D.2.1 64 x) = lvI D x u) (h1 : ∀ s, Fr fqR S0 s → (∀ k, ¬ wnt D t u w k) → X1 s) (h2 : ∀ s k (hk : k < (kL D t).length), Fr fqR S0 s → wnt D t u w k → (∀ j, j < k → ¬ wnt D t u w j) → X2 (nI k) s) : ∀ n k s, k ≤ (kL D t).length → (kL D t).length - k < n → Fr fqR S0 s → (∀ j, j < k → ¬ wnt D t u w j) → w_242_L14 n t w (nI (fcp D t (fnd D t u) k)) (nI k) s X1 X2 K := by
  have h150 := kL_150 h (t := t)
  intro n
  induction n with
  | zero => intro k s _ z; omega
  | succ n ih =>
    intro k s hk hn f hs
    have r := RW_fr f r0
    have fD : Fr fsS D s := fr_tr (F := fqR) rfl f0 f
    rw [w_242_L14, r.1, nI_leI (by omega) (by omega)]
    by_cases c : (kL D t).length ≤ k
    · refine br_t c (h1 s f (fun j z => ?_))
      have hj : j < (kL D t).length := z.1
      exact hs j (by omega) z
    refine br_f c ?_
    have hkl : k < (kL D t).length := by omega
    obtain ⟨r1, r2, r3, hx, r5, r6⟩ := rp h r hkl
    rw [nI_clamp (show k < 2 ^ 31 by omega), r1]
    refine ⟨r2, mp_239 (u := u) h hJ fD r (by rw [f.1 5552 rfl]; exact hu _ hx) hx (fun s1 f1 => ?_)⟩
    have f2 : Fr fqR S0 s1 := fr_tr (F := fqR) rfl f f1
    have nx : ¬ wnt D t u w k → w_242_L14 n t w (nI (fcp D t (fnd D t u) (k + 1))) (nI (k + 1)) s1 X1 X2 K := by
      intro z
      refine ih (k + 1) s1 (by omega) (by omega) f2 (fun j hj => ?_)
      by_cases e : j = k
      · subst e; exact z
      · exact hs j (by omega)
    rw [fcp_s hkl, ← nI_1 k] at nx
    by_cases d : fnd D t u (kL D t)[k] = true
    · rw [if_pos d] at nx ⊢
      rw [nI_1 (fcp D t (fnd D t u) k)]
      refine br_t (by decide) ?_
      by_cases e : nI (fcp D t (fnd D t u) k) = w
      · exact br_f (fun z => z e) (h2 s1 k hkl f2 ⟨hkl, d, e⟩ hs)
      · exact br_t e (nx (fun z => e z.2.2))
    · rw [if_neg d] at nx ⊢
      exact br_f (fun z => z rfl) (nx (fun z => d z.2.1))
theorem sp_11 {t : Nat} {s : ST} {X F : ST → Prop} (a1 : Int32) (a2 : Int32) (h : J t s) (hX : ∀ s1, J (t + 1) s1 → X s1) : st_11 a1 a2 s X F := by
  obtain ⟨hnow, hhou, hrow, hord, hmen, htap, hthi, hjud, hask, hrea, hsca, hvie, hrul, hrnd, hroo⟩ := h
  have hJ : J t s := ⟨hnow, hhou, hrow, hord, hmen, htap, hthi, hjud, hask, hrea, hsca, hvie, hrul, hrnd, hroo⟩
  have hB := J_Bk hJ
  have rej : (¬ (0 ≤ a1.toInt ∧ a1.toInt ≤ 3999) ∨ ¬ 0 ≤ a2) → w_242 a1 a2 s (fun r4 s3 => (-1 = r4 → X s3) ∧ (¬ -1 = r4 → F s3)) := by
    intro hc
    have fin : X s := hX _ (J_s hJ)
    unfold w_242
    simp only [e_187, t_187]
    by_cases c : 0 ≤ a1.toInt ∧ a1.toInt ≤ 3999
    · refine br_f (fun z => z c) (br_f ?_ (br_t (by trivial) fin))
      exact hc.resolve_left (fun z => z c)
    · exact br_t c (br_t (by trivial) fin)
  unfold st_11 w_142
  simp only [e_182, t_182]
  by_cases d : 0 ≤ a1.toInt ∧ a1.toInt ≤ 3999
  · refine br_f (fun z => z d) ?_
    by_cases e : (0 : Int32) ≤ a2
    · refine br_t e ?_
      refine mp_111 hB (fr_rfl _ _) hvie (fun s1 f1 vw jv => ?_)
      have fS : Fr fsS s s1 := fr_weak rfl f1
      have h150 := kL_150 hB (t := a1)
      have u1 : s1.1 1600 = -1 := by rw [f1.1 1600 rfl]; exact hsca.1
      have ref : ∀ (y : Int32) (s2 : ST), Fr fqW s1 s2 → ((∀ k, ¬ wnt s a1 (-1) a2 k) → y = -1) → (∀ k (hk : k < (kL s a1).length), wnt s a1 (-1) a2 k → (∀ j, j < k → ¬ wnt s a1 (-1) a2 j) → y = nI (kL s a1)[k]) → w_242 a1 a2 s2 (fun r4 s3 => (y = r4 → X s3) ∧ (¬ y = r4 → F s3)) := by
        intro y s2 f2 hy1 hy2
        have fS2 : Fr fsS s s2 := fr_tr (F := fqW) rfl fS f2
        unfold w_242
        simp only [e_187, t_187]
        refine br_f (fun z => z d) (br_t e ?_)
        refine mp_197 hB fS2 (fun s3 f3 rw3 => ?_)
        have fS3 : Fr fsS s s3 := fr_tr (F := fq197) rfl fS2 f3
        have u3 : s3.1 5552 = -2 := by rw [f3.1 5552 rfl, f2.1 5552 rfl, f1.1 5552 rfl]; exact hsca.2
        have jj : ∀ s4, Fr fqR s3 s4 → X s4 := by
          intro s4 f4
          have fQ : Fr fsQ s s4 := fr_tr (F := fqR) rfl (fr_tr (F := fq197) rfl (fr_tr (F := fqW) rfl (fr_weak rfl f1) f2) f3) f4
          exact hX _ (J_Q fQ hJ (Jvie_G f4 (Jvie_G f3 (Jvie_G f2 jv))))
        refine ⟨160, l_242 (u := -1) hB hrul fS3 rw3 (fun x hx => by rw [u3]; exact hu_n hB hx) ?_ ?_ 160 0 s3 (by omega) (by omega) (fr_rfl _ _) (fun j hj => absurd hj (by omega))⟩
        · intro s4 f4 z
          exact br_t (hy1 z) (jj s4 f4)
        · intro s4 k hk f4 z1 z2
          have r4 := RW_fr f4 rw3
          obtain ⟨q1, q2, q3, hx, q5, q6⟩ := rp hB r4 hk
          rw [nI_clamp (show k < 2 ^ 31 by omega), q1]
          exact ⟨q2, br_t (hy2 k hk z1 z2) (jj s4 f4)⟩
      refine ⟨160, l_142 (u := -1) (w := a2) hB hrul vw u1 ?_ ?_ 160 0 s1 (by omega) (by omega) (fr_rfl _ _) (fun j hj => absurd hj (by omega))⟩
      · intro s2 f2 z
        exact ref _ s2 f2 (fun _ => rfl) (fun k hk z1 _ => absurd z1 (z k))
      · intro s2 k hk f2 z1 z2
        refine ref _ s2 f2 (fun z => absurd z1 (z k)) (fun k2 hk2 y1 y2 => ?_)
        have : k = k2 := by
          by_cases a : k < k2
          · exact absurd z1 (y2 k a)
          · by_cases b : k2 < k
            · exact absurd y1 (z2 k2 b)
            · omega
        subst this
        rfl
    · exact br_f e (rej (Or.inr e))
  · exact br_t d (rej (Or.inl d))
/-- a row that was put in, and is found where that is asked -/
def fou (D : ST) (t w : Int32) (x : Nat) : Bool := !decide (D.2.1 68 x = 0) && (decide (w = 0) || fnd D t (-1) x)
theorem l_174 {D S0 : ST} {t w : Int32} {X K : Int32 → ST → Prop} (h : Bk D) (hJ : Jrul D) (v0 : VW D t S0) (hu : S0.1 1600 = -1) (h29 : ∀ i, i < 150 → D.2.1 29 i = D.2.1 68 i) (hX : ∀ s, Fr fqW S0 s → X (nI (fcp D t (fou D t w) (kL D t).length)) s) : ∀ n k s, k ≤ (kL D t).length → (kL D t).length - k < n → Fr fqW S0 s → w_174_L17 n w (nI (fcp D t (fou D t w) k)) (nI k) s X K := by
  have h150 := kL_150 h (t := t)
  have hR := (bkR h).2.2
  intro n
  induction n with
  | zero => intro k s _ z; omega
  | succ n ih =>
    intro k s hk hn f
    have v := VW_W f v0
    rw [w_174_L17, v.2.1.2.1, nI_leI (by omega) (by omega)]
    by_cases c : (kL D t).length ≤ k
    · have : k = (kL D t).length := by omega
      subst this
      exact br_t c (hX s f)
    refine br_f c ?_
    have hkl : k < (kL D t).length := by omega
    obtain ⟨hx, _⟩ := kL_lt h hkl
    rw [w_at h v.2.1 hkl]
    simp only [e_2, t_2]
    have e102 : s.1 102 = nI (nR D) := by rw [v.2.1.1.1 102 rfl]; exact (bkR h).2.1
    refine br_f (fun z => z ?_) ⟨pin_nI (by omega) (by omega), ?_⟩
    · rw [e102, nI_toInt (by omega), nI_toInt (by omega)]; omega
    rw [nI_clamp (show (kL D t)[k] < 2 ^ 31 by omega), v.2.1.1.2.1 29 rfl, h29 _ (by omega)]
    have nx : ∀ s1, Fr fqW S0 s1 → w_174_L17 n w (nI (fcp D t (fou D t w) (k + 1))) (nI (k + 1)) s1 X K := fun s1 f1 => ih (k + 1) s1 (by omega) (by omega) f1
    rw [fcp_s hkl, ← nI_1 k] at nx
    by_cases d : D.2.1 68 (kL D t)[k] = 0
    · have z : fou D t w (kL D t)[k] = false := by unfold fou; rw [decide_eq_true d]; rfl
      rw [z, if_neg (by decide)] at nx
      exact br_t d (nx s f)
    · refine br_f d ?_
      have z : fou D t w (kL D t)[k] = (decide (w = 0) || fnd D t (-1) (kL D t)[k]) := by unfold fou; rw [decide_eq_false d]; rfl
      rw [z] at nx
      by_cases e : w = 0
      · rw [decide_eq_true e, Bool.true_or, if_pos rfl] at nx
        rw [nI_1 (fcp D t (fou D t w) k)]
        exact br_t e (nx s f)
      · rw [decide_eq_false e, Bool.false_or] at nx
        refine br_f e (mp_56 (u := -1) h hJ v (by rw [f.1 1600 rfl]; exact hu) hkl (fun s1 f1 => ?_))
        have f2 : Fr fqW S0 s1 := fr_tr (F := fqW) rfl f f1
        by_cases q : fnd D t (-1) (kL D t)[k] = true
        · rw [if_pos q] at nx ⊢
          rw [nI_1 (fcp D t (fou D t w) k)]
          exact br_f (by decide) (nx s1 f2)
        · rw [if_neg q] at nx ⊢
          exact br_t rfl (nx s1 f2)
theorem l_275 {D S0 : ST} {w : Int32} {X K : Int32 → ST → Prop} (h : Bk D) (hJ : Jrul D) (f0 : Fr fsS D S0) (r0 : RW D (D.1 5500) S0) (hu : S0.1 5552 = -2) (hX : ∀ s, Fr fqR S0 s → X (nI (fcp D (D.1 5500) (fou D (D.1 5500) w) (kL D (D.1 5500)).length)) s) : ∀ n k s, k ≤ (kL D (D.1 5500)).length → (kL D (D.1 5500)).length - k < n → Fr fqR S0 s → w_275_L15 n w (nI (fcp D (D.1 5500) (fou D (D.1 5500) w) k)) (nI k) s X K := by
  have h150 := kL_150 h (t := D.1 5500)
  intro n
  induction n with
  | zero => intro k s _ z; omega
  | succ n ih =>
    intro k s hk hn f
    have r := RW_fr f r0
    have fD : Fr fsS D s := fr_tr (F := fqR) rfl f0 f
    rw [w_275_L15, r.1, nI_leI (by omega) (by omega)]
    by_cases c : (kL D (D.1 5500)).length ≤ k
    · have : k = (kL D (D.1 5500)).length := by omega
      subst this
      exact br_t c (hX s f)
    refine br_f c ?_
    have hkl : k < (kL D (D.1 5500)).length := by omega
    obtain ⟨r1, r2, r3, hx, r5, r6⟩ := rp h r hkl
    rw [nI_clamp (show k < 2 ^ 31 by omega), r1, r5, fD.2.1 68 rfl, fD.1 5500 rfl]
    refine ⟨r2, r3, ?_⟩
    have nx : ∀ s1, Fr fqR S0 s1 → w_275_L15 n w (nI (fcp D (D.1 5500) (fou D (D.1 5500) w) (k + 1))) (nI (k + 1)) s1 X K := fun s1 f1 => ih (k + 1) s1 (by omega) (by omega) f1
    rw [fcp_s hkl, ← nI_1 k] at nx
    by_cases d : D.2.1 68 (kL D (D.1 5500))[k] = 0
    · have z : fou D (D.1 5500) w (kL D (D.1 5500))[k] = false := by unfold fou; rw [decide_eq_true d]; rfl
      rw [z, if_neg (by decide)] at nx
      rw [Int32.add_zero]
      exact br_t d (nx s f)
    · refine br_f d ?_
      have z : fou D (D.1 5500) w (kL D (D.1 5500))[k] = (decide (w = 0) || fnd D (D.1 5500) (-1) (kL D (D.1 5500))[k]) := by unfold fou; rw [decide_eq_false d]; rfl
      rw [z] at nx
      by_cases e : w = 0
      · rw [decide_eq_true e, Bool.true_or, if_pos rfl] at nx
        rw [nI_1 (fcp D (D.1 5500) (fou D (D.1 5500) w) k)]
        exact br_t e (nx s f)
      · rw [decide_eq_false e, Bool.false_or] at nx
        refine br_f e ⟨r2, mp_239 (u := -1) h hJ fD r (by rw [f.1 5552 rfl, hu]; exact hu_n h hx) hx (fun s1 f1 => ?_)⟩
        have f2 : Fr fqR S0 s1 := fr_tr (F := fqR) rfl f f1
        by_cases q : fnd D (D.1 5500) (-1) (kL D (D.1 5500))[k] = true
        · rw [if_pos q] at nx ⊢
          rw [nI_1 (fcp D (D.1 5500) (fou D (D.1 5500) w) k)]
          exact br_f (by decide) (nx s1 f2)
        · rw [if_neg q] at nx ⊢
          rw [Int32.add_zero]
          exact br_t rfl (nx s1 f2)
theorem sp_29 {t : Nat} {s : ST} {X F : ST → Prop} (a1 : Int32) (h : J t s) (hX : ∀ s1, J (t + 1) s1 → X s1) : st_29 a1 s X F := by
  obtain ⟨hnow, hhou, hrow, hord, hmen, htap, hthi, hjud, hask, hrea, hsca, hvie, hrul, hrnd, hroo⟩ := h
  have hJ : J t s := ⟨hnow, hhou, hrow, hord, hmen, htap, hthi, hjud, hask, hrea, hsca, hvie, hrul, hrnd, hroo⟩
  have hB := J_Bk hJ
  unfold st_29 w_174
  simp only [e_181, t_181, Int32.reduceToInt]
  by_cases d : 0 ≤ a1.toInt ∧ a1.toInt ≤ 1
  · refine br_t (fun z => z d) ?_
    rw [hnow.1]
    refine mp_111 hB (fr_rfl _ _) hvie (fun s1 f1 vw jv => ?_)
    have fS : Fr fsS s s1 := fr_weak rfl f1
    have h150 := kL_150 hB (t := s.1 5500)
    have u1 : s1.1 1600 = -1 := by rw [f1.1 1600 rfl]; exact hsca.1
    refine ⟨160, l_174 hB hrul vw u1 (fun i hi => (hjud i hi).1) ?_ 160 0 s1 (by omega) (by omega) (fr_rfl _ _)⟩
    intro s2 f2
    have fS2 : Fr fsS s s2 := fr_tr (F := fqW) rfl fS f2
    unfold w_275
    simp only [e_186, t_186, Int32.reduceToInt]
    refine br_t (fun z => z d) ?_
    have k5500 : s2.1 5500 = s.1 5500 := fS2.1 5500 rfl
    rw [k5500]
    refine mp_197 hB fS2 (fun s3 f3 rw3 => ?_)
    have fS3 : Fr fsS s s3 := fr_tr (F := fq197) rfl fS2 f3
    have u3 : s3.1 5552 = -2 := by rw [f3.1 5552 rfl, f2.1 5552 rfl, f1.1 5552 rfl]; exact hsca.2
    refine ⟨160, l_275 hB hrul fS3 rw3 u3 ?_ 160 0 s3 (by omega) (by omega) (fr_rfl _ _)⟩
    intro s4 f4
    have fQ : Fr fsQ s s4 := fr_tr (F := fqR) rfl (fr_tr (F := fq197) rfl (fr_tr (F := fqW) rfl (fr_weak rfl f1) f2) f3) f4
    exact br_t (by trivial) (hX _ (J_Q fQ hJ (Jvie_G f4 (Jvie_G f3 (Jvie_G f2 jv)))))
  · refine br_f (fun z => z d) ?_
    unfold w_275
    simp only [e_186, t_186, Int32.reduceToInt]
    exact br_f (fun z => z d) (br_t (by trivial) (hX _ (J_s hJ)))
