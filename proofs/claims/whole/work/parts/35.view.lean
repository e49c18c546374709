/-! ===== the class's view of a day ===== -/
theorem AL_snoc {g : Nat → Int32} {L : List Nat} {x : Nat} (h : AL g L) : AL (upd g L.length (nI x)) (L ++ [x]) := by
  intro k hk
  rw [List.length_append, List.length_singleton] at hk
  by_cases c : k < L.length
  · rw [pk_un (by omega), List.getElem_append_left c]
    exact h k c
  · have : k = L.length := by omega
    subst this
    rw [pk_us, List.getElem_append_right (Nat.le_refl _)]
    simp only [Nat.sub_self, List.getElem_singleton]
theorem w8 {s : ST} {p : Nat} {K : Int32 → ST → Prop} (h : Bk s) (hp : p < nR s) : w_8 (nI p) s K = K (s.2.1 4 p) s := by
  obtain ⟨_, h2, h3⟩ := bkR h
  rw [e_8 _ _ (fun _ _ => pin_nI (by omega) (by omega))]
  unfold v_8
  rw [if_neg (nI_pos (by omega)), if_neg (by rw [h2, nI_leI (by omega) (by omega)]; omega), nI_clamp (by omega)]
theorem n150 {x : Nat} (h : x < 150) : ¬ (150 : Int32) ≤ nI x := by
  have e : (150 : Int32) = nI 150 := rfl
  rw [e, nI_leI (by omega) (by omega)]
  omega
theorem w118 {s : ST} {x : Nat} {K : Int32 → ST → Prop} (hx : x < 150) : w_118 (nI x) s K = K (if s.2.1 9 x ≤ 0 then 0 else 1) s := by
  rw [e_118 _ _ (fun _ _ => pin_nI (by omega) (by omega))]
  unfold v_118
  rw [if_neg (nI_pos (by omega)), if_neg (n150 hx), nI_clamp (by omega)]
theorem w119 {s : ST} {x : Nat} {K : Int32 → ST → Prop} (hx : x < 150) : w_119 (nI x) s K = K (s.2.1 9 x) s := by
  rw [e_119 _ _ (fun _ _ => pin_nI (by omega) (by omega))]
  unfold v_119
  rw [if_neg (nI_pos (by omega)), if_neg (n150 hx), nI_clamp (by omega)]
theorem w123 {s : ST} {L : List Nat} {k : Nat} {K : Int32 → ST → Prop} (h1 : s.1 801 = nI L.length) (h2 : AL (s.2.1 11) L) (hl : L.length ≤ 150) (hk : k < L.length) : w_123 (nI k) s K = K (nI L[k]) s := by
  rw [e_123 _ _ (fun _ _ => pin_nI (by omega) (by omega))]
  unfold v_123
  rw [if_neg (nI_pos (by omega)), if_neg (by rw [h1, nI_leI (by omega) (by omega)]; omega), nI_clamp (by omega), h2 k hk]
abbrev fqA : FS := ([801], [10, 11], [], false, false)
theorem frA {D s : ST} (f : Fr fqA D s) : Fr fsS D s := fr_weak rfl f
theorem kp_le {s : ST} (h : Bk s) {t : Int32} {i : Nat} (hi : i < nR s) : smI s t i ≤ 0 ↔ ¬ kp s t i = true := by
  have r := smI_rng h (t := t) hi
  unfold kp
  rw [Bool.not_eq_true', decide_eq_false_iff_not, i_le, l_0, i_eq, l_0]
  omega
theorem l_111a {D S : ST} {t : Int32} {X K : ST → Prop} (h : Bk D) (f0 : Fr fsS D S) (h9 : ∀ j, j < nR D → S.2.1 9 j = smI D t j) (hX : ∀ s, Fr fqA S s → s.1 801 = nI (kL D t).length → AL (s.2.1 11) (kL D t) → (∀ k (hk : k < (kL D t).length), s.2.1 10 (kL D t)[k] = nI k) → X s) : ∀ n p s, p ≤ nR D → nR D - p < n → Fr fqA S s → s.1 801 = nI (((ordL (D.2.1 60) (D.2.1 61) (nR D)).take p).filter (kp D t)).length → AL (s.2.1 11) (((ordL (D.2.1 60) (D.2.1 61) (nR D)).take p).filter (kp D t)) → (∀ k (hk : k < (((ordL (D.2.1 60) (D.2.1 61) (nR D)).take p).filter (kp D t)).length), s.2.1 10 (((ordL (D.2.1 60) (D.2.1 61) (nR D)).take p).filter (kp D t))[k] = nI k) → w_111_L10 n (nI p) s X K := by
  obtain ⟨r1, r2, r3⟩ := bkR h
  intro n
  induction n with
  | zero => intro p s _ z; omega
  | succ n ih =>
    intro p s hp hn f a1 a2 a3
    have fD : Fr fsS D s := fr_tr (F := fqA) rfl f0 f
    have hB := Bk_S fD h
    have hnR := nR_S fD
    have ol : (ordL (D.2.1 60) (D.2.1 61) (nR D)).length = nR D := ordL_len _
    rw [w_111_L10, fD.1 102 rfl, r2, nI_leI (by omega) (by omega)]
    by_cases c : nR D ≤ p
    · have e : p = nR D := by omega
      subst e
      have ek : ((ordL (D.2.1 60) (D.2.1 61) (nR D)).take (nR D)).filter (kp D t) = kL D t := by
        rw [List.take_of_length_le (by omega)]
        exact (kLn_eq D t (nR D)).symm
      rw [ek] at a1 a2
      refine br_t c (hX s f a1 a2 ?_)
      intro k hk
      have := a3 k (by rw [ek]; exact hk)
      simp only [ek] at this
      exact this
    refine br_f c ?_
    rw [w8 hB (by omega)]
    have hpl : p < (ordL (D.2.1 60) (D.2.1 61) (nR D)).length := by omega
    have eo : s.2.1 4 p = nI (ordL (D.2.1 60) (D.2.1 61) (nR D))[p] := by
      rw [fD.2.1 4 rfl]
      exact h.2.2.2.1 p hpl
    rw [eo]
    have hxR : (ordL (D.2.1 60) (D.2.1 61) (nR D))[p] < nR D := (ordL_mem _).mp (List.getElem_mem hpl)
    have hnd := ordL_nd (dy := D.2.1 60) (hr := D.2.1 61) (nR D)
    have tk : (ordL (D.2.1 60) (D.2.1 61) (nR D)).take (p + 1) = (ordL (D.2.1 60) (D.2.1 61) (nR D)).take p ++ [(ordL (D.2.1 60) (D.2.1 61) (nR D))[p]] := List.take_succ_eq_append_getElem hpl
    have hnin : (ordL (D.2.1 60) (D.2.1 61) (nR D))[p] ∉ (ordL (D.2.1 60) (D.2.1 61) (nR D)).take p := by
      intro z
      obtain ⟨j, hj, e⟩ := List.mem_take_iff_getElem.mp z
      have := nd_inj hnd (by omega) hpl e
      omega
    generalize (ordL (D.2.1 60) (D.2.1 61) (nR D))[p] = x at tk hxR hnin
    have hlen : (((ordL (D.2.1 60) (D.2.1 61) (nR D)).take p).filter (kp D t)).length ≤ p := by
      have := List.length_filter_le (kp D t) ((ordL (D.2.1 60) (D.2.1 61) (nR D)).take p)
      rw [List.length_take] at this
      omega
    rw [w_113, w118 (by omega)]
    have e9 : s.2.1 9 x = smI D t x := by
      rw [f.2.1 9 rfl]
      exact h9 x hxR
    rw [e9]
    by_cases d : smI D t x ≤ 0
    · rw [if_pos d]
      refine br_t rfl ?_
      rw [nI_1]
      have ih1 := ih (p + 1) s (by omega) (by omega) f
      rw [tk, List.filter_append, List.filter_cons_of_neg ((kp_le h hxR).mp d), List.filter_nil, List.append_nil] at ih1
      exact ih1 a1 a2 a3
    · rw [if_neg d]
      refine br_f (by decide) ?_
      have kx : kp D t x = true := Classical.byContradiction (fun z => d ((kp_le h hxR).mpr z))
      rw [a1]
      refine br_f (n150 (by omega)) ⟨pin_nI (by omega) (by omega), pin_nI (by omega) (by omega), ?_⟩
      rw [nI_1, nI_1, nI_clamp (by omega), nI_clamp (by omega)]
      have ih1 := ih (p + 1) (sA (sA (sI s 801 (nI ((((ordL (D.2.1 60) (D.2.1 61) (nR D)).take p).filter (kp D t)).length + 1))) 11 (upd (s.2.1 11) (((ordL (D.2.1 60) (D.2.1 61) (nR D)).take p).filter (kp D t)).length (nI x))) 10 (upd (s.2.1 10) x (nI (((ordL (D.2.1 60) (D.2.1 61) (nR D)).take p).filter (kp D t)).length))) (by omega) (by omega) (fr_sA 10 (fr_sA 11 (fr_sI 801 f)))
      rw [tk, List.filter_append, List.filter_cons_of_pos kx, List.filter_nil] at ih1
      have hnin2 : x ∉ ((ordL (D.2.1 60) (D.2.1 61) (nR D)).take p).filter (kp D t) := fun z => hnin (List.mem_filter.mp z).1
      generalize ((ordL (D.2.1 60) (D.2.1 61) (nR D)).take p).filter (kp D t) = M at ih1 a1 a2 a3 hlen hnin2
      refine ih1 ?_ (AL_snoc a2) ?_
      · rw [List.length_append, List.length_singleton]; rfl
      · intro k hk
        rw [List.length_append, List.length_singleton] at hk
        show upd (s.2.1 10) x (nI M.length) (M ++ [x])[k] = nI k
        by_cases e : k < M.length
        · rw [List.getElem_append_left e, pk_un]
          · exact a3 k e
          · intro z
            exact hnin2 (z ▸ List.getElem_mem e)
        · have : k = M.length := by omega
          subst this
          rw [List.getElem_append_right (Nat.le_refl _)]
          simp only [Nat.sub_self, List.getElem_singleton]
          exact pk_us
/-! counting a day's rows -/
def hN (s : ST) (x : Nat) : Nat := (s.2.1 63 x).toNatClampNeg
def gN (s : ST) (x : Nat) : Nat := if s.2.1 57 x = 0 then (s.2.1 59 x).toNatClampNeg else if s.2.1 57 x = 1 then 20 + (s.2.1 59 x).toNatClampNeg else 40
def smN (s : ST) (t : Int32) (x : Nat) : Nat := (smI s t x).toNatClampNeg
def cntH (s : ST) (S : List Nat) (k : Nat) : Nat := (S.filter (fun q => decide (hN s q = k))).length
def sumG (s : ST) (t : Int32) (S : List Nat) (g : Nat) : Nat := ((S.filter (fun q => decide (gN s q = g))).map (smN s t)).sum
theorem cntH_snoc {s : ST} {S : List Nat} {x k : Nat} : cntH s (S ++ [x]) k = cntH s S k + if hN s x = k then 1 else 0 := by
  unfold cntH
  rw [List.filter_append, List.length_append]
  by_cases c : hN s x = k
  · rw [if_pos c, List.filter_cons_of_pos (by simp [c])]; rfl
  · rw [if_neg c, List.filter_cons_of_neg (by simp [c])]; rfl
theorem cntH_cons {s : ST} {S : List Nat} {x k : Nat} : cntH s (x :: S) k = cntH s S k + if hN s x = k then 1 else 0 := by
  unfold cntH
  by_cases c : hN s x = k
  · rw [if_pos c, List.filter_cons_of_pos (by simp [c])]; rfl
  · rw [if_neg c, List.filter_cons_of_neg (by simp [c])]; rfl
theorem sumG_snoc {s : ST} {t : Int32} {S : List Nat} {x k : Nat} : sumG s t (S ++ [x]) k = sumG s t S k + if gN s x = k then smN s t x else 0 := by
  unfold sumG
  rw [List.filter_append, List.map_append, List.sum_append]
  by_cases c : gN s x = k
  · rw [if_pos c, List.filter_cons_of_pos (by simp [c])]; simp
  · rw [if_neg c, List.filter_cons_of_neg (by simp [c])]; simp
theorem sumG_cons {s : ST} {t : Int32} {S : List Nat} {x k : Nat} : sumG s t (x :: S) k = sumG s t S k + if gN s x = k then smN s t x else 0 := by
  unfold sumG
  by_cases c : gN s x = k
  · rw [if_pos c, List.filter_cons_of_pos (by simp [c]), List.map_cons, List.sum_cons, Nat.add_comm]
  · rw [if_neg c, List.filter_cons_of_neg (by simp [c])]; rfl
/-- a row's hand and group, as the class reads them -/
theorem hN_ok {s : ST} (h : Bk s) {x : Nat} (hx : x < nR s) : s.2.1 63 x = nI (hN s x) ∧ hN s x < 16 := by
  have r := (h.2.2.1.2.2.2 x hx).2
  unfold Rok at r
  exact ⟨nI_nat (by omega), by show (s.2.1 63 x).toInt.toNat < 16; omega⟩
theorem gN_ok {s : ST} (h : Bk s) {x : Nat} (hx : x < nR s) : (gN s x < 40 ∨ gN s x = 40) ∧ ∀ {K : Int32 → ST → Prop}, w_117 (nI x) s K = K (if gN s x < 40 then nI (gN s x) else -1) s := by
  have r := (h.2.2.1.2.2.2 x hx)
  obtain ⟨⟨q0, q1, q2, _⟩, hk⟩ := r
  unfold Rok at hk
  have e1 : (1 : Int32).toInt = 1 := rfl
  have h0 : ∀ {K : Int32 → ST → Prop}, w_9 (nI x) 0 s K = K (s.2.1 57 x) s := by
    intro K
    rw [c9 (c := 0) (x := 0) h hx (by omega) rfl, Nat.add_zero, q0]
  have h2 : ∀ {K : Int32 → ST → Prop}, w_9 (nI x) 2 s K = K (s.2.1 59 x) s := by
    intro K
    rw [c9 (c := 2) (x := 2) h hx (by omega) rfl, q2]
  by_cases a : s.2.1 57 x = 0
  · have eg : gN s x = (s.2.1 59 x).toNatClampNeg := by unfold gN; rw [if_pos a]
    rw [i_eq, l_0] at a
    have eo : s.2.1 59 x = nI (s.2.1 59 x).toNatClampNeg := nI_nat (by omega)
    have hl : (s.2.1 59 x).toNatClampNeg < 20 := by rw [cl_e]; omega
    rw [eg]
    refine ⟨Or.inl (by omega), ?_⟩
    intro K
    rw [w_117, h0]
    rw [← l_0, ← i_eq] at a
    rw [a, if_pos (by omega)]
    simp (decide := true) only [true_implies, false_implies, not_true_eq_false, and_true]
    rw [h2, ← eo]
    have z : (0 : Int32) * 20 + s.2.1 59 x = s.2.1 59 x := by
      have z1 : (0 : Int32) * 20 = 0 := by decide
      rw [z1, Int32.zero_add]
    rw [z]
  · by_cases b : s.2.1 57 x = 1
    · have eg : gN s x = 20 + (s.2.1 59 x).toNatClampNeg := by unfold gN; rw [if_neg a, if_pos b]
      have b2 := b
      rw [i_eq, e1] at b
      have eo : s.2.1 59 x = nI (s.2.1 59 x).toNatClampNeg := nI_nat (by omega)
      have hl : (s.2.1 59 x).toNatClampNeg < 20 := by rw [cl_e]; omega
      rw [eg]
      refine ⟨Or.inl (by omega), ?_⟩
      intro K
      rw [w_117, h0, b2, if_pos (by omega)]
      simp (decide := true) only [true_implies, false_implies, not_true_eq_false, not_false_eq_true, and_true, true_and]
      rw [h2]
      have z : (1 : Int32) * 20 + s.2.1 59 x = nI (20 + (s.2.1 59 x).toNatClampNeg) := by
        have z1 : (1 : Int32) * 20 = nI 20 := by decide
        rw [z1, ← nI_add, ← eo]
      rw [z]
    · have eg : gN s x = 40 := by unfold gN; rw [if_neg a, if_neg b]
      rw [eg]
      refine ⟨Or.inr rfl, ?_⟩
      intro K
      rw [w_117, h0, if_neg (by omega)]
      simp only [a, b, false_implies, not_false_eq_true, true_implies, true_and, not_true_eq_false, and_true]
