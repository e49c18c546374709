/-! ===== the class's reader: letters, numbers ===== -/
theorem l_291 {x4 : Int32} {s : ST} {X17 : ST → Prop} {X13 K : Int32 → ST → Prop} (h17 : (∀ i, i < 13 → ¬ pbyt.getD i 0 = x4) → X17 s) (h13 : ∀ i, i < 13 → pbyt.getD i 0 = x4 → (∀ j, j < i → ¬ pbyt.getD j 0 = x4) → X13 (nI i) s) : ∀ (N k : Nat), k ≤ 13 → 13 - k < N → (∀ i, i < k → ¬ pbyt.getD i 0 = x4) → w_291_F3_L5 N (nI 13) x4 (nI k) s X17 X13 K := by
  intro N
  induction N with
  | zero => intro k _ z; omega
  | succ N ih =>
    intro k hk hN h
    rw [w_291_F3_L5, nI_leI (by omega) (by omega), nI_clamp (by omega), nI_1]
    by_cases c : 13 ≤ k
    · exact br_t c (h17 (fun i hi => h i (by omega)))
    refine br_f c ⟨pin_nI (by omega) (by omega), ?_⟩
    by_cases d : pbyt.getD k 0 = x4
    · exact br_f (fun z => z d) (h13 k (by omega) d h)
    · refine br_t d (ih (k + 1) (by omega) (by omega) (fun i hi => ?_))
      by_cases e : i = k
      · rw [e]; exact d
      · exact h i (by omega)
def ltI (x : Nat) : Int32 := if fcN x < 13 then nI (fcN x) else -1
theorem fc_tab : ∀ x : Fin 256, (fcN x.val < 13 → pbyt.getD (fcN x.val) 0 = (nI x.val).toInt8.toInt32 ∧ ∀ j, j < fcN x.val → ¬ pbyt.getD j 0 = (nI x.val).toInt8.toInt32) ∧ (¬ fcN x.val < 13 → ∀ j, j < 13 → ¬ pbyt.getD j 0 = (nI x.val).toInt8.toInt32) := by decide +kernel
theorem mp_285 {x : Nat} {s : ST} {K : Int32 → ST → Prop} (hx : x < 256) (k : K (ltI x) s) : w_285_F2 (((nI x).toUInt32 % 65536).toInt32) s K := by
  obtain ⟨t1, t2⟩ := fc_tab ⟨x, hx⟩
  have t1 : fcN x < 13 → pbyt.getD (fcN x) 0 = (nI x).toInt8.toInt32 ∧ ∀ j, j < fcN x → ¬ pbyt.getD j 0 = (nI x).toInt8.toInt32 := t1
  have t2 : ¬ fcN x < 13 → ∀ j, j < 13 → ¬ pbyt.getD j 0 = (nI x).toInt8.toInt32 := t2
  unfold w_285_F2 w_286_F2 w_288_F2 w_284_F2 w_287_F2
  rw [pk_char, pk_tn (by omega), Nat.mod_eq_of_lt (by omega)]
  refine br_f (by decide) ?_
  unfold w_290_F3 w_289
  rw [show (255 : Int32) = nI 255 from rfl]
  refine br_f (nI_pos (by omega)) (br_f (nI_nlt (by omega) (by omega)) ?_)
  refine br_t (by decide) (br_t (by decide) ?_)
  unfold w_291_F3
  refine ⟨14, l_291 (x4 := (nI x).toInt8.toInt32) ?_ ?_ 14 0 (by omega) (by omega) (fun i hi => absurd hi (by omega))⟩
  · intro h
    have : ltI x = -1 := if_neg (fun z => h _ z (t1 z).1)
    rw [this] at k
    exact k
  · intro i hi e h
    have hl : fcN x < 13 := Classical.byContradiction (fun z => t2 z i hi e)
    have ei : i = fcN x := by
      obtain ⟨u1, u2⟩ := t1 hl
      by_cases a : i < fcN x
      · exact absurd e (u2 i a)
      · by_cases b : fcN x < i
        · exact absurd u1 (h _ b)
        · omega
    have : ltI x = nI i := by rw [ei]; exact if_pos hl
    rw [this] at k
    exact k
section Cn
variable {S0 s : ST} {T : Nat → Nat} {n : Nat}
theorem w79m {s : ST} {K : Int32 → ST → Prop} : w_79 (-1) s K = K 0 s := by
  unfold w_79
  exact propext ⟨fun h => h.1 (by decide), fun h => br_t (by decide) h⟩
theorem w79v {x : Nat} {s : ST} {K : Int32 → ST → Prop} (hx : x ≤ 256) : w_79 (sgI x) s K = K (if 48 ≤ x ∧ x ≤ 57 then 1 else 0) s := by
  have ex := sgI_toInt hx
  have e1 : (48 : Int32).toInt = 48 := rfl
  have e2 : (57 : Int32).toInt = 57 := rfl
  unfold w_79
  rw [i_lt, i_lt, e1, e2, ex]
  by_cases c : x = 256
  · rw [if_pos c, if_neg (by omega)]
    exact propext ⟨fun h => h.1 (by omega), fun h => br_t (by omega) h⟩
  · rw [if_neg c]
    by_cases d : 48 ≤ x ∧ x ≤ 57
    · rw [if_pos d]
      exact propext ⟨fun h => (h.2 (by omega)).2 (by omega), fun h => br_f (by omega) (br_f (by omega) h)⟩
    · rw [if_neg d]
      by_cases g : x < 48
      · exact propext ⟨fun h => h.1 (by omega), fun h => br_t (by omega) h⟩
      · exact propext ⟨fun h => (h.2 (by omega)).1 (by omega), fun h => br_f (by omega) (br_t (by omega) h)⟩
theorem l_77l {e : Nat × Nat} {x1 x2 : Int32} {X K : Int32 → ST → Prop} (h : CX S0 n s (.inl e)) (k : X x1 s) : w_77_L13 1 x1 x2 s X K := by
  rw [w_77_L13]
  refine ⟨fun _ => k, fun _ => ?_⟩
  rw [w81l h, w79m]
  exact br_t rfl k
theorem mp_77l {e : Nat × Nat} {K : Int32 → ST → Prop} (h : CX S0 n s (.inl e)) (k : ∀ y, K y s) : w_77 s K := by
  unfold w_77
  rw [w81l h, w79m]
  refine br_f (fun z => z rfl) ?_
  rw [w85l h]
  refine ⟨1, l_77l h ?_⟩
  rw [w81l h, w79m]
  exact br_t rfl (k _)
theorem l_77 {G : List Pc} {X K : Int32 → ST → Prop} (hT : TX S0 T n) : ∀ (N k a v : Nat) (s : ST), k ≤ 7 → 7 - k < N → CX S0 n s (.inr (a, G)) → (∀ s1, CX S0 n s1 (.inr ((pnL (sgn T n) (7 - k) a v).1, G)) → X (nI (pnL (sgn T n) (7 - k) a v).2) s1) → w_77_L13 N (nI v) (nI k) s X K := by
  intro N
  induction N with
  | zero => intro k a v s _ z; omega
  | succ N ih =>
    intro k a v s hk hN h hX
    rw [w_77_L13, show (7 : Int32) = nI 7 from rfl, nI_leI (by omega) (by omega)]
    by_cases c : 7 ≤ k
    · rw [show 7 - k = 0 by omega] at hX
      exact br_t c (hX s h)
    refine br_f c ?_
    rw [w81r hT h, w79v (sgn_le hT)]
    rw [show 7 - k = (7 - (k + 1)) + 1 by omega] at hX
    by_cases d : 48 ≤ sgn T n a ∧ sgn T n a ≤ 57
    · have ep : pnL (sgn T n) ((7 - (k + 1)) + 1) a v = pnL (sgn T n) (7 - (k + 1)) (a + 1) (10 * v + (sgn T n a - 48)) := if_pos d
      rw [if_pos d]
      refine br_f (by decide) ?_
      rw [w81r hT h, nI_1]
      have e1 : (10 : Int32) * nI v + sgI (sgn T n a) - 48 = nI (10 * v + (sgn T n a - 48)) := by
        have : sgI (sgn T n a) = nI (sgn T n a) := if_neg (by omega)
        rw [this, show (10 : Int32) = nI 10 from rfl, show (48 : Int32) = nI 48 from rfl, pk_mul, nI_add, pk_sub (by omega), show 10 * v + sgn T n a - 48 = 10 * v + (sgn T n a - 48) by omega]
      rw [e1]
      refine ih (k + 1) (a + 1) _ _ (by omega) (by omega) (CX_adv h (sgn_in hT (by omega))) ?_
      rw [← ep]
      exact hX
    · have ep : pnL (sgn T n) ((7 - (k + 1)) + 1) a v = (a, v) := if_neg d
      rw [ep] at hX
      rw [if_neg d]
      exact br_t rfl (hX s h)
theorem mp_77 {a : Nat} {G : List Pc} {K : Int32 → ST → Prop} (hT : TX S0 T n) (h : CX S0 n s (.inr (a, G))) (kg : ∀ s1, (∀ f, pNum (sgn T n) a f = f (pnL (sgn T n) 7 a 0).1 (pnL (sgn T n) 7 a 0).2) → (48 ≤ sgn T n a ∧ sgn T n a ≤ 57) → CX S0 n s1 (.inr ((pnL (sgn T n) 7 a 0).1, G)) → K (nI (pnL (sgn T n) 7 a 0).2) s1) (kb : ∀ e y s1, (∀ f, pNum (sgn T n) a f = .inl e) → CX S0 n s1 (.inl e) → K y s1) : w_77 s K := by
  have h2 : s.1 3504 = nI a := h.2.2.1
  unfold w_77
  rw [w81r hT h, w79v (sgn_le hT)]
  by_cases d : 48 ≤ sgn T n a ∧ sgn T n a ≤ 57
  · rw [if_pos d]
    refine br_t (by decide) ⟨8, l_77 (G := G) hT 8 0 a 0 s (by omega) (by omega) h ?_⟩
    intro s1 h1
    rw [w81r hT h1, w79v (sgn_le hT)]
    have h3 : s1.1 3504 = nI (pnL (sgn T n) 7 a 0).1 := h1.2.2.1
    by_cases c : 48 ≤ sgn T n (pnL (sgn T n) 7 a 0).1 ∧ sgn T n (pnL (sgn T n) 7 a 0).1 ≤ 57
    · rw [if_pos c]
      refine br_f (by decide) ?_
      rw [h3]
      exact mp_85 2 _ hT h1 (by omega) (fun s2 h4 => kb _ _ s2 (fun f => by unfold pNum; rw [if_pos d, if_pos c]) h4)
    · rw [if_neg c]
      exact br_t rfl (kg s1 (fun f => by unfold pNum; rw [if_pos d, if_neg c]) d h1)
  · rw [if_neg d]
    refine br_f (fun z => z rfl) ?_
    rw [h2]
    refine mp_85 1 a hT h (by omega) (fun s1 h1 => ⟨1, l_77l h1 ?_⟩)
    rw [w81l h1, w79m]
    exact br_t rfl (kb _ _ s1 (fun f => by unfold pNum; rw [if_neg d]) h1)
end Cn
