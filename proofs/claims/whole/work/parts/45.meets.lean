/-! ===== the class's evaluator ===== -/
abbrev fq18 : FS := ([], [], [18], false, false)
theorem n160 {d : Nat} (h : d < 160) : nI d < Int32.ofNat 160 := nI_lt h (by omega)
theorem l_21 {s0 : ST} {m L : Nat} {f : Nat → Int32} {G : Nat → Nat × Nat} {st : Nat → List Bool} {fx : Nat → Int64} {b : Bool} {X147 : Int32 → ST → Prop} {X30 X54 X122 : ST → Prop} {K : Int32 → ST → Prop} (hrow : prow s0.2.2.2.2 m 0 = some (L, f)) (hf : ∀ p, p < L → f p = nI (16 * (G p).2 + (G p).1)) (hw : wt G L st) (hfx : ∀ k, k < 13 → s0.2.2.1 17 k = fx k) (h1 : ∀ s a, Fr fq18 s0 s → s.2.2.1 18 0 = a → (a = 0 ∨ a = 1) → b = decide (a = 1) → X147 1 s) (h2 : ∀ s, Fr fq18 s0 s → b = false → X122 s) : ∀ n p S s, p ≤ L → L - p < n → Fr fq18 s0 s → SA (s.2.2.1 18) S → TS (st p) S → ev G L fx n p S = b → w_21_L4 n m (nI S.length) (nI p) s X147 X30 X54 X122 K := by
  have hL := hw.2.2.1
  intro n
  induction n with
  | zero => intro p S s _ z; omega
  | succ n ih =>
    intro p S s hp hn f1 hS hT he
    have hlen := TS_len hT
    have hsl := st_len hw p hp
    have hr : prow s.2.2.2.2 m 0 = some (L, f) := by rw [f1.2.2.2.2 rfl]; exact hrow
    rw [w_21_L4]
    refine ⟨L, f, hr, ?_⟩
    have ofL : Int32.ofNat L = nI L := rfl
    rw [ofL, nI_leI (by omega) (by omega)]
    by_cases c : L ≤ p
    · have : p = L := by omega
      subst this
      rw [hw.2.1] at hT
      obtain ⟨a, r, e1, e2, e3⟩ := TS_cons hT
      cases r with
      | cons _ _ => exact e3.elim
      | nil =>
        subst e1
        rw [ev_end c] at he
        exact br_t c (h1 s a f1 (SA_top hS) (e2 rfl) he.symm)
    refine br_f c ?_
    have hpl : p < L := by omega
    obtain ⟨w0, w1, w2, w3, w4, w5⟩ := hw.2.2.2 p hpl
    have hv := wt_v hL (hw.2.2.2 p hpl)
    have pp : pin (nI p) L = true := pin_nI hpl (by omega)
    refine ⟨L, f, hr, pp, L, f, hr, pp, ?_⟩
    rw [nI_clamp (show p < 2 ^ 31 by omega), hf p hpl, enc_op w0 hv, enc_v w0 hv]
    have lt160 : nI S.length < Int32.ofNat 160 := n160 (by omega)
    have le160 : nI S.length ≤ Int32.ofNat 160 := nI_le (show S.length ≤ 160 by omega) (by omega)
    have pS : pin (nI S.length) 160 = true := pin_nI (by omega) (by omega)
    have e17 : s.2.2.1 17 = s0.2.2.1 17 := f1.2.2.1 17 rfl
    have ne : ∀ {x y : Nat}, x ≤ 12 → y ≤ 12 → x ≠ y → ¬ nI x = nI y := fun hx hy h z => h ((nI_eq (by omega) (by omega)).mp z)
    by_cases c0 : (G p).1 = 0
    · rw [ev_0 c c0] at he
      obtain ⟨t1, t2⟩ := w1 c0
      rw [c0]
      refine br_t rfl (br_t lt160 (br_f (fun z => z rfl) ⟨pS, ?_⟩))
      rw [nI_1, nI_1, nI_clamp (by omega), nI_l (by omega)]
      exact ih (p + 1) (lN (G p).2 :: S) _ (by omega) (by omega) (fr_sL 18 f1) (SA_push hS) (by rw [t1]; exact TS_up hT) he
    by_cases c1 : (G p).1 = 1
    · rw [ev_1 c c0 c1] at he
      obtain ⟨t1, t2⟩ := w2 c1
      rw [c1]
      refine br_f (by decide) (br_f (fun z => z rfl) (br_t lt160 (br_t (by decide) ?_)))
      have o22 : ob_22 (nI (G p).2) s := fun _ _ => pin_nI t2 (by omega)
      rw [e_22 _ _ o22]
      unfold v_22
      have e13 : Int32.ofNat 13 = nI 13 := rfl
      rw [if_neg (nI_pos (by omega)), if_neg (by rw [e13, nI_leI (by omega) (by omega)]; omega), nI_clamp (show (G p).2 < 2 ^ 31 by omega), e17, hfx _ t2, nI_1, nI_1, nI_clamp (show S.length < 2 ^ 31 by omega)]
      exact ⟨pS, ih (p + 1) (fx (G p).2 :: S) _ (by omega) (by omega) (fr_sL 18 f1) (SA_push hS) (by rw [t1]; exact TS_up hT) he⟩
    have ne0 : ¬ nI (G p).1 = 0 := ne (y := 0) w0 (by omega) c0
    have ne1 : ¬ nI (G p).1 = 1 := ne (y := 1) w0 (by omega) c1
    refine br_f ne0 (br_t ne1 ?_)
    cases S with
    | nil =>
      -- the stack isn't empty here
      have hl0 : (st p).length = 0 := hlen.symm
      have : (st p).length ≠ 0 := by
        by_cases c2 : (G p).1 = 2
        · obtain ⟨_, r, e1, _⟩ := w3 c2
          rw [e1, List.length_cons]; omega
        by_cases c3 : (G p).1 = 3 ∨ (G p).1 = 4
        · obtain ⟨r, e1, _⟩ := w4 c3
          rw [e1, List.length_cons]; omega
        · obtain ⟨_, r, e1, _⟩ := w5 (by omega)
          rw [e1, List.length_cons]; omega
      exact absurd hl0 this
    | cons a r =>
      rw [List.length_cons] at hlen lt160 le160 pS ⊢
      have em1 : nI (r.length + 1) - 1 = nI r.length := nI_pred _
      have em2 : nI (r.length + 1) + (-1) = nI r.length := pk_m1 _
      have pr : pin (nI r.length) 160 = true := pin_nI (by omega) (by omega)
      have e1lt : ¬ nI (r.length + 1) < 1 := nI_nlt (b := 1) (show 1 ≤ r.length + 1 by omega) (by omega)
      refine br_f e1lt (br_t le160 ?_)
      rw [em1, em2, nI_clamp (show r.length < 2 ^ 31 by omega), SA_top hS]
      by_cases c2 : (G p).1 = 2
      · rw [ev_2 c c0 c1 c2] at he
        obtain ⟨_, r2, t1, t2⟩ := w3 c2
        rw [t1] at hT
        rw [c2]
        refine br_f (fun z => z rfl) ⟨pr, pr, ?_⟩
        rw [nI_1]
        exact ih (p + 1) ((1 - a) :: r) _ (by omega) (by omega) (fr_sL 18 f1) (SA_set hS) (by rw [t2]; exact ⟨fun _ => not01 (hT.1 rfl), hT.2⟩) he
      refine br_t (ne (y := 2) w0 (by omega) c2) ?_
      -- where a leap leads
      have leap : (G p).1 = 3 ∨ (G p).1 = 4 → (if nI p < nI (G p).2 - 1 then nI (G p).2 - 1 else nI p) + 1 = nI (G p).2 := by
        intro c3
        obtain ⟨r2, _, _, q1, q2, _⟩ := w4 c3
        obtain ⟨k, hk⟩ : ∃ k, (G p).2 = k + 1 := ⟨(G p).2 - 1, by omega⟩
        rw [hk, nI_pred]
        by_cases z : p < k
        · rw [if_pos (nI_lt z (by omega)), nI_1]
        · have : p = k := by omega
          subst this
          rw [if_neg (nI_nlt (Nat.le_refl _) (by omega)), nI_1]
      by_cases c3 : (G p).1 = 3
      · rw [ev_3 c c0 c1 c2 c3] at he
        obtain ⟨r2, t1, t2, t3, t4, t5⟩ := w4 (Or.inl c3)
        rw [t1] at hT
        have lp := leap (Or.inl c3)
        rw [c3]
        refine br_t rfl ⟨pr, ?_⟩
        rw [lg_cmp_eq]
        by_cases z : a = 0
        · rw [if_pos z] at he
          refine br_t z (br_t (by decide) (br_f (fun y => y rfl) ?_))
          rw [lp]
          exact ih (G p).2 (a :: r) s (by omega) (by omega) f1 hS (by rw [t5]; exact hT) he
        · rw [if_neg z] at he
          refine br_f z (br_t (by decide) (br_t (by decide) ?_))
          rw [nI_1]
          exact ih (p + 1) r s (by omega) (by omega) f1 (SA_pop hS) (by rw [t2]; exact hT.2) he
      refine br_f (ne (y := 3) w0 (by omega) c3) ?_
      by_cases c4 : (G p).1 = 4
      · rw [ev_4 c c0 c1 c2 c3 c4] at he
        obtain ⟨r2, t1, t2, t3, t4, t5⟩ := w4 (Or.inr c4)
        rw [t1] at hT
        have lp := leap (Or.inr c4)
        rw [c4]
        refine br_f (fun z => z rfl) ⟨pr, ?_⟩
        rw [lg_cmp_eq]
        by_cases z : a = 0
        · rw [if_pos z] at he
          refine br_t z (br_f (fun y => y rfl) (br_t (by decide) ?_))
          rw [nI_1]
          exact ih (p + 1) r s (by omega) (by omega) f1 (SA_pop hS) (by rw [t2]; exact hT.2) he
        · rw [if_neg z] at he
          refine br_f z (br_f (fun y => y rfl) (br_f (fun y => y rfl) ?_))
          rw [lp]
          exact ih (G p).2 (a :: r) s (by omega) (by omega) f1 hS (by rw [t5]; exact hT) he
      refine br_t (ne (y := 4) w0 (by omega) c4) ?_
      obtain ⟨_, r2, t1, t2⟩ := w5 (by omega)
      rw [t1] at hT
      obtain ⟨_, hT2⟩ := hT
      obtain ⟨cc, r3, e1, _, hT3⟩ := TS_cons hT2
      subst e1
      rw [List.length_cons] at *
      have e2lt : ¬ nI (r3.length + 1 + 1) < 2 := nI_nlt (b := 2) (show 2 ≤ r3.length + 1 + 1 by omega) (by omega)
      have em3 : nI (r3.length + 1 + 1) - 2 = nI r3.length := by
        have z : (2 : Int32) = nI 2 := rfl
        rw [z, pk_sub (by omega)]
        congr 1
      refine br_f e2lt ⟨pr, ?_⟩
      rw [ev_5 c c0 c1 c2 c3 c4] at he
      simp only [e_23]
      unfold v_23
      have le := lg_cmp_eq a 0
      have n8 : (nI (G p).1 = 8) ↔ (G p).1 = 8 := nI_eq (b := 8) (by omega) (by omega)
      have n9 : (nI (G p).1 = 9) ↔ (G p).1 = 9 := nI_eq (b := 9) (by omega) (by omega)
      by_cases z : ((G p).1 = 8 ∨ (G p).1 = 9) ∧ a = 0
      · rw [if_pos z] at he
        have v1 : (if ¬ lg_cmp a 0 = 0 then (0 : Int32) else if nI (G p).1 = 8 then 1 else if ¬ nI (G p).1 = 9 then 0 else 1) = 1 := by
          rw [if_neg (fun y => y (le.mpr z.2))]
          rcases z.1 with y | y
          · rw [if_pos (n8.mpr y)]
          · rw [if_neg (fun w => by have := n8.mp w; omega), if_neg (fun w => w (n9.mpr y))]
        rw [v1]
        exact br_f (by decide) (h2 s f1 he.symm)
      · rw [if_neg z] at he
        have v0 : (if ¬ lg_cmp a 0 = 0 then (0 : Int32) else if nI (G p).1 = 8 then 1 else if ¬ nI (G p).1 = 9 then 0 else 1) = 0 := by
          by_cases y : lg_cmp a 0 = 0
          · rw [if_neg (fun w => w y), if_neg (fun w => z ⟨Or.inl (n8.mp w), le.mp y⟩), if_pos (fun w => z ⟨Or.inr (n9.mp w), le.mp y⟩)]
          · rw [if_pos y]
        rw [v0]
        have p3 : pin (nI r3.length) 160 = true := pin_nI (by omega) (by omega)
        rw [em3, nI_clamp (show r3.length < 2 ^ 31 by omega)]
        have tp1 : s.2.2.1 18 (r3.length + 1) = a := SA_top hS
        have tp2 : s.2.2.1 18 r3.length = cc := SA_top (SA_pop hS)
        rw [tp1, tp2]
        refine br_t rfl ⟨p3, pr, mp_24 (by omega) w0 z ⟨p3, ?_⟩⟩
        rw [nI_1]
        exact ih (p + 1) (evB (G p).1 cc a :: r3) _ (by omega) (by omega) (fr_sL 18 f1) (SA_bin hS) (by rw [t2]; exact TS_bin w0 hT3) he
theorem mp_21 {s : ST} {m L : Nat} {f : Nat → Int32} {G : Nat → Nat × Nat} {st : Nat → List Bool} {fx : Nat → Int64} {K : Int32 → ST → Prop} (hrow : prow s.2.2.2.2 m 0 = some (L, f)) (hf : ∀ p, p < L → f p = nI (16 * (G p).2 + (G p).1)) (hw : wt G L st) (hfx : ∀ k, k < 13 → s.2.2.1 17 k = fx k) (k : ∀ s1, Fr fq18 s s1 → K (if evT G L fx = true then 1 else 0) s1) : w_21 m s K := by
  unfold w_21
  refine ⟨L + 1, l_21 (b := evT G L fx) hrow hf hw hfx ?_ ?_ (L + 1) 0 [] s (by omega) (by omega) (fr_rfl _ _) (fun i hi => absurd hi (Nat.not_lt_zero _)) (by rw [hw.1]; exact trivial) rfl⟩
  · intro s1 a f1 e1 e2 e3
    have k1 := k s1 f1
    refine br_f (fun z => z rfl) ⟨by decide, ?_⟩
    have z0 : ((0 : Int32)).toNatClampNeg = 0 := rfl
    rw [z0, e1, lg_cmp_eq]
    rcases e2 with e | e
    · subst e
      rw [e3, if_neg (by decide)] at k1
      exact br_t rfl k1
    · subst e
      rw [e3, if_pos (by decide)] at k1
      exact br_f (by decide) k1
  · intro s1 f1 e3
    have k1 := k s1 f1
    rw [e3, if_neg (by decide)] at k1
    exact k1
