/-! ===== a row put in its order ===== -/
theorem w7 {s : ST} {dy hr : Nat → Int32} {R x i : Nat} {K : Int32 → ST → Prop} (hR : R < 150) (h102 : s.1 102 = nI (R + 1)) (hx : x ≤ R) (hi : i ≤ R) (hd : ∀ j, j ≤ R → s.2.1 3 (11 * j + 3) = dy j ∧ s.2.1 3 (11 * j + 4) = hr j ∧ 0 ≤ (dy j).toInt ∧ (dy j).toInt ≤ 3999) (k : K (if lat dy hr x i = true then 1 else 0) s) : w_7 (nI x) (nI i) s K := by
  have c9 : ∀ (j c : Nat) (y : Int32) (K : Int32 → ST → Prop), j ≤ R → c < 11 → y = nI c → w_9 (nI j) y s K = K (s.2.1 3 (11 * j + c)) s := fun j c y K hj hc hy => w9 (by rw [h102, nI_toInt (by omega)]; omega) (by rw [h102, nI_toInt (by omega)]; omega) hc hy
  obtain ⟨d1, d2, d3, d4⟩ := hd x hx
  obtain ⟨e1, e2, e3, e4⟩ := hd i hi
  unfold w_7
  rw [c9 x 3 3 _ hx (by omega) rfl]
  rw [c9 i 3 3 _ hi (by omega) rfl]
  rw [d1, e1]
  have es : (dy x - dy i).toInt = (dy x).toInt - (dy i).toInt := t_sub (by omega) (by omega)
  by_cases a : 0 < dy x - dy i
  · refine br_t a ?_
    rw [i_lt, l_0, es] at a
    rw [if_pos (lat_iff.mpr (Or.inl (by omega)))] at k
    exact k
  · refine br_f a ?_
    rw [i_lt, l_0, es] at a
    by_cases b : dy x - dy i = 0
    · refine br_f (fun z => z b) ?_
      rw [i_eq, l_0, es] at b
      rw [c9 x 4 4 _ hx (by omega) rfl]
      rw [c9 i 4 4 _ hi (by omega) rfl]
      rw [d2, e2]
      by_cases c : hr x ≤ hr i
      · refine br_t c ?_
        rw [i_le] at c
        rw [if_neg (by rw [lat_iff]; omega)] at k
        exact k
      · refine br_f c ?_
        rw [i_le] at c
        rw [if_pos (lat_iff.mpr (Or.inr (by omega)))] at k
        exact k
    · refine br_t b ?_
      rw [i_eq, l_0, es] at b
      rw [if_neg (by rw [lat_iff]; omega)] at k
      exact k
theorem l_6 {dy hr : Nat → Int32} {c3 : Nat → Int32} {R : Nat} {L : List Nat} {X : Int32 → Int32 → ST → Prop} {K : ST → Prop} (hR : R < 150) (hl : L.length = R) (hm : ∀ x, x ∈ L → x < R) (hd : ∀ j, j ≤ R → c3 (11 * j + 3) = dy j ∧ c3 (11 * j + 4) = hr j ∧ 0 ≤ (dy j).toInt ∧ (dy j).toInt ≤ 3999) (hX : ∀ (k : Nat) (s : ST), k ≤ R → (∀ j (hj : j < L.length), k ≤ j → lat dy hr L[j] R = true) → (∀ (hj : k - 1 < L.length), 0 < k → lat dy hr L[k - 1] R = false) → (∀ j (hj : j < L.length), j < k → s.2.1 4 j = nI L[j]) → (∀ j (hj : j < L.length), k ≤ j → s.2.1 4 (j + 1) = nI L[j]) → X (nI R) (nI k) s) : ∀ (k : Nat) (s : ST), k ≤ R → s.1 102 = nI (R + 1) → s.2.1 3 = c3 → (∀ j (hj : j < L.length), k ≤ j → lat dy hr L[j] R = true) → (∀ j (hj : j < L.length), j < k → s.2.1 4 j = nI L[j]) → (∀ j (hj : j < L.length), k ≤ j → s.2.1 4 (j + 1) = nI L[j]) → w_6_L2 (k + 1) (nI R) (nI k) s X K := by
  intro k
  induction k with
  | zero =>
    intro s _ h1 h3 h4 h5 h6
    rw [w_6_L2]
    exact br_t (by decide) (hX 0 s (by omega) h4 (fun _ z => absurd z (by omega)) h5 h6)
  | succ k ih =>
    intro s hk h1 h3 h4 h5 h6
    rw [w_6_L2]
    refine br_f (nI_nle (by omega) (by omega)) ?_
    have e1 : nI (k + 1) - 1 = nI k := nI_pred k
    have e2 : nI (k + 1) + (-1) = nI k := pk_m1 k
    rw [e1, e2, nI_clamp (show k < 2 ^ 31 by omega), nI_clamp (show k + 1 < 2 ^ 31 by omega)]
    refine ⟨pin_nI (by omega) (by omega), ?_⟩
    have hk2 : k < L.length := by omega
    have g := h5 k hk2 (by omega)
    rw [g]
    refine w7 (dy := dy) (hr := hr) hR h1 (by have := hm L[k] (List.getElem_mem hk2); omega) (Nat.le_refl R) (by rw [h3]; exact hd) ?_
    by_cases c : lat dy hr L[k] R = true
    · rw [if_pos c]
      refine br_f (by decide) ?_
      refine ⟨pin_nI (by omega) (by omega), pin_nI (by omega) (by omega), ?_⟩
      rw [g]
      refine ih _ (by omega) h1 h3 ?_ ?_ ?_
      · intro j hj hkj
        by_cases e : j = k
        · subst e; exact c
        · exact h4 j hj (by omega)
      · intro j hj hjk
        exact (pk_un (by omega)).trans (h5 j hj (by omega))
      · intro j hj hkj
        by_cases e : j = k
        · subst e; exact pk_us
        · exact (pk_un (by omega)).trans (h6 j hj (by omega))
    · rw [if_neg c]
      refine br_t rfl ?_
      refine hX (k + 1) s hk h4 ?_ h5 h6
      intro hj _
      exact Bool.eq_false_iff.mpr c
theorem mp_6 {s : ST} {dy hr : Nat → Int32} {R : Nat} {L : List Nat} {K : ST → Prop} (hR : R < 150) (h102 : s.1 102 = nI (R + 1)) (hl : L.length = R) (hm : ∀ x, x ∈ L → x < R) (hs : srt dy hr L) (hd : ∀ j, j ≤ R → s.2.1 3 (11 * j + 3) = dy j ∧ s.2.1 3 (11 * j + 4) = hr j ∧ 0 ≤ (dy j).toInt ∧ (dy j).toInt ≤ 3999) (hA : AL (s.2.1 4) L) (k : ∀ s1, Fr fs2 s s1 → AL (s1.2.1 4) (insF dy hr R L) → K s1) : w_6 (nI R) s K := by
  have h : w_6 (nI R) s (fun s1 => AL (s1.2.1 4) (insF dy hr R L)) := by
    unfold w_6
    refine ⟨R + 1, l_6 (c3 := s.2.1 3) hR hl hm hd ?_ R s (Nat.le_refl R) h102 rfl (fun j hj h => absurd h (by omega)) (fun j hj _ => hA j hj) (fun j hj h => absurd h (by omega))⟩
    intro k s1 hk a1 a2 a3 a4
    refine ⟨pin_nI (by omega) (by omega), ?_⟩
    rw [nI_clamp (by omega)]
    refine AL_ins (k := k) hs (by omega) a1 a2 ?_ ?_ ?_
    · intro j hj hjk
      exact (pk_un (by omega)).trans (a3 j hj hjk)
    · exact pk_us
    · intro j hj hkj
      exact (pk_un (by omega)).trans (a4 j hj hkj)
  exact fm_w_6 (nI R) s (fr_rfl _ _) h (fun s1 f h => k s1 f h)
/-! ===== row: when it is taken ===== -/
def rowA (s : ST) (a1 a2 a3 a4 a5 a6 a7 a8 a9 : Int32) : Prop := 0 ≤ a1.toInt ∧ a1.toInt ≤ 3 ∧ 0 ≤ a2.toInt ∧ a2.toInt < (s.1 5501).toInt ∧ (a1.toInt = 2 → 0 ≤ a3.toInt ∧ a3.toInt < (s.1 5501).toInt ∧ ¬ a3.toInt = a2.toInt) ∧ (a1.toInt = 3 → a3.toInt = -1) ∧ (a1.toInt ≤ 1 → 0 ≤ a3.toInt ∧ a3.toInt ≤ 19) ∧ 0 ≤ a4.toInt ∧ a4.toInt ≤ (s.1 5500).toInt ∧ 0 ≤ a5.toInt ∧ a5.toInt ≤ 23 ∧ 1 ≤ a6.toInt ∧ a6.toInt ≤ 1000000 ∧ 0 ≤ a7.toInt ∧ a7.toInt ≤ 15 ∧ -1 ≤ a8.toInt ∧ a8.toInt ≤ 15 ∧ ¬ a8.toInt = a7.toInt ∧ -1 ≤ a9.toInt ∧ a9.toInt ≤ 99 ∧ (s.1 5502).toInt < 150
theorem t_130 {a1 a2 a3 : Int32} {s : ST} (h : 0 ≤ a1.toInt ∧ a1.toInt ≤ 3) : (v_130 a1 a2 a3 s = 0) ↔ ¬ ((a1.toInt = 2 → 0 ≤ a3.toInt ∧ a3.toInt < (s.1 101).toInt ∧ ¬ a3.toInt = a2.toInt) ∧ (a1.toInt = 3 → a3.toInt = -1) ∧ (a1.toInt ≤ 1 → 0 ≤ a3.toInt ∧ a3.toInt ≤ 19)) := by
  unfold v_130
  have e3 : (3 : Int32).toInt = 3 := rfl
  have e2 : (2 : Int32).toInt = 2 := rfl
  have e19 : (19 : Int32).toInt = 19 := rfl
  by_cases c : a1 = 3
  · rw [if_neg (fun z => z c)]
    rw [i_eq] at c
    by_cases d : a3 = -1
    · rw [if_neg (fun z => z d)]
      rw [i_eq, l_m1] at d
      exact ⟨fun z => absurd z (by decide), fun z => by omega⟩
    · rw [if_pos d]
      rw [i_eq, l_m1] at d
      exact ⟨fun _ => by omega, fun _ => rfl⟩
  · rw [if_pos c]
    rw [i_eq] at c
    by_cases d : a1 = 2
    · rw [if_neg (fun z => z d)]
      rw [i_eq] at d
      by_cases e : v_1 a3 s = 0
      · rw [if_pos e]
        rw [t_1] at e
        exact ⟨fun _ => by omega, fun _ => rfl⟩
      · rw [if_neg e]
        rw [t_1] at e
        by_cases f : a3 = a2
        · rw [if_pos f]
          rw [i_eq] at f
          exact ⟨fun _ => by omega, fun _ => rfl⟩
        · rw [if_neg f]
          rw [i_eq] at f
          exact ⟨fun z => absurd z (by decide), fun z => by omega⟩
    · rw [if_pos d]
      rw [i_eq] at d
      rw [t_181, l_0, e19]
      omega
theorem c_129 {s : ST} {a1 a2 a3 a4 a5 a6 a7 a8 a9 : Int32} {K : Int32 → ST → Prop} (h100 : s.1 100 = s.1 5500) (h101 : s.1 101 = s.1 5501) (h102 : s.1 102 = s.1 5502) (hn : ¬ rowA s a1 a2 a3 a4 a5 a6 a7 a8 a9 → K (-1) s) (hy : rowA s a1 a2 a3 a4 a5 a6 a7 a8 a9 → w_5 s.2.2.2.2.length (sD s (s.2.2.2.2 ++ [(Sum.inl (0, 11, .inl (upd (upd (upd (upd (upd (upd (upd (upd (upd (upd (upd (fun _ => 0) 0 a1) 1 a2) 2 a3) 3 a4) 4 a5) 5 a6) 6 a7) 7 a8) 8 a9) 9 (s.1 5500)) 10 (-1))) : PC)])) K) : w_129 a1 a2 a3 a4 a5 a6 a7 a8 a9 s K := by
  unfold rowA at hn hy
  unfold w_129
  simp only [e_181, t_181, e_1, t_1, e_130, e_183, t_183, Int32.reduceToInt, h100, h101, h102]
  refine ⟨fun c => hn (by omega), fun c1 => ?_⟩
  refine ⟨fun c => hn (by omega), fun c2 => ?_⟩
  rw [t_130 (by omega), h101]
  refine ⟨fun c => hn (by omega), fun c3 => ?_⟩
  refine ⟨fun c => hn (by omega), fun c4 => ?_⟩
  refine ⟨fun c => hn (by omega), fun c5 => ?_⟩
  refine ⟨fun c => hn (by omega), fun c6 => ?_⟩
  refine ⟨fun c => hn (by omega), fun c7 => ?_⟩
  refine ⟨fun c => hn (by omega), fun c8 => ?_⟩
  refine ⟨fun c => hn (by rw [i_eq] at c; omega), fun c9 => ?_⟩
  refine ⟨fun c => hn (by omega), fun c10 => ?_⟩
  rw [i_eq] at c9
  have e150 : (150 : Int32).toInt = 150 := rfl
  refine ⟨fun c11 => ?_, fun c => hn (by rw [i_lt] at c; omega)⟩
  rw [i_lt] at c11
  refine ⟨by decide, by decide, by decide, by decide, by decide, by decide, by decide, by decide, by decide, by decide, by decide, by decide, by decide, ?_⟩
  exact hy (by omega)
theorem r_193 {s : ST} {a1 a2 a3 a4 a5 a6 a7 a8 a9 : Int32} {K : Int32 → ST → Prop} (h0 : 0 ≤ (s.1 5502).toInt) (h1 : (s.1 5502).toInt ≤ 150) (hn : ¬ rowA s a1 a2 a3 a4 a5 a6 a7 a8 a9 → K (-1) s) (hy : rowA s a1 a2 a3 a4 a5 a6 a7 a8 a9 → K (s.1 5502 + 1 - 1) (sA (sA (sA (sA (sA (sA (sA (sA (sA (sA (sA (sI s 5502 (s.1 5502 + 1)) 57 (upd (s.2.1 57) (s.1 5502).toNatClampNeg a1)) 58 (upd (s.2.1 58) (s.1 5502).toNatClampNeg a2)) 59 (upd (s.2.1 59) (s.1 5502).toNatClampNeg a3)) 60 (upd (s.2.1 60) (s.1 5502).toNatClampNeg a4)) 61 (upd (s.2.1 61) (s.1 5502).toNatClampNeg a5)) 62 (upd (s.2.1 62) (s.1 5502).toNatClampNeg a6)) 63 (upd (s.2.1 63) (s.1 5502).toNatClampNeg a7)) 64 (upd (s.2.1 64) (s.1 5502).toNatClampNeg a8)) 65 (upd (s.2.1 65) (s.1 5502).toNatClampNeg a9)) 66 (upd (s.2.1 66) (s.1 5502).toNatClampNeg (s.1 5500))) 67 (upd (s.2.1 67) (s.1 5502).toNatClampNeg (-1)))) : w_193 a1 a2 a3 a4 a5 a6 a7 a8 a9 s K := by
  unfold rowA at hn hy
  have e3 : (3 : Int32).toInt = 3 := rfl
  have e2 : (2 : Int32).toInt = 2 := rfl
  have e150 : (150 : Int32).toInt = 150 := rfl
  have lm := l_m1
  unfold w_193
  simp only [e_186, t_186, e_189, t_189, e_191, t_191, Int32.reduceToInt]
  refine ⟨fun c => hn (by omega), fun c1 => ?_⟩
  refine ⟨fun c => hn (by omega), fun c2 => ?_⟩
  refine ⟨fun c => hn (by omega), fun c3 => ?_⟩
  refine ⟨fun c => hn (by omega), fun c4 => ?_⟩
  refine ⟨fun c => hn (by omega), fun c5 => ?_⟩
  refine ⟨fun c => hn (by omega), fun c6 => ?_⟩
  refine ⟨fun c7 => ?_, fun c7 => ?_⟩
  · rw [i_eq] at c7
    refine ⟨fun c => hn (by omega), fun c8 => ?_⟩
    refine ⟨fun c9 => ?_, fun c => hn (by rw [i_eq] at c; omega)⟩
    rw [i_eq] at c9
    have hp : pin (s.1 5502) 150 = true := pin_of h0 (by omega)
    refine ⟨fun c10 => ⟨fun c11 => ⟨fun c12 => ?_, fun c => hn (by rw [i_eq] at c10 c11; omega)⟩, fun c11 => ⟨fun c12 => ?_, fun c => hn (by rw [i_eq] at c10 c11 c; omega)⟩⟩, fun c10 => ⟨fun c => hn (by rw [i_eq] at c10; omega), fun c11 => ⟨fun c12 => ?_, fun c => hn (by rw [i_eq] at c10 c; omega)⟩⟩⟩
    · refine ⟨hp, hp, hp, hp, hp, hp, hp, hp, hp, hp, hp, hy ?_⟩
      rw [i_eq] at c10 c11
      omega
    · refine ⟨hp, hp, hp, hp, hp, hp, hp, hp, hp, hp, hp, hy ?_⟩
      rw [i_eq] at c10 c11 c12
      omega
    · refine ⟨hp, hp, hp, hp, hp, hp, hp, hp, hp, hp, hp, hy ?_⟩
      rw [i_eq] at c10 c12
      omega
  · rw [i_eq] at c7
    refine ⟨fun c => hn (by omega), fun d1 => ?_⟩
    refine ⟨fun c => hn (by rw [i_eq] at c; omega), fun d2 => ?_⟩
    rw [i_eq] at d2
    refine ⟨fun c => hn (by omega), fun c8 => ?_⟩
    refine ⟨fun c9 => ?_, fun c => hn (by rw [i_eq] at c; omega)⟩
    rw [i_eq] at c9
    have hp : pin (s.1 5502) 150 = true := pin_of h0 (by omega)
    refine ⟨fun c10 => ⟨fun c11 => ⟨fun c12 => ?_, fun c => hn (by rw [i_eq] at c10 c11; omega)⟩, fun c11 => ⟨fun c12 => ?_, fun c => hn (by rw [i_eq] at c10 c11 c; omega)⟩⟩, fun c10 => ⟨fun c => hn (by rw [i_eq] at c10; omega), fun c11 => ⟨fun c12 => ?_, fun c => hn (by rw [i_eq] at c10 c; omega)⟩⟩⟩
    · refine ⟨hp, hp, hp, hp, hp, hp, hp, hp, hp, hp, hp, hy ?_⟩
      rw [i_eq] at c10 c11
      omega
    · refine ⟨hp, hp, hp, hp, hp, hp, hp, hp, hp, hp, hp, hy ?_⟩
      rw [i_eq] at c10 c11 c12
      omega
    · refine ⟨hp, hp, hp, hp, hp, hp, hp, hp, hp, hp, hp, hy ?_⟩
      rw [i_eq] at c10 c12
      omega
